/-! ===== what each pair of calls must be: the same answer, related states ===== -/
def Sim_letters (Rel : Fo → Ev → Li → Te → Pa → Im → Mo → Prop) : Prop := ∀ (z : Fo) (ev : Ev) (li : Li) (te : Te) (pa : Pa) (im : Im) (mo : Mo) (x1 : Int32), Rel z ev li te pa im mo → ∃ (r : Int32) (z' : Fo) (ev' : Ev) (li' : Li) (pa' : Pa) (mo' : Mo), fX5_letters z ev li te pa im x1 = some (r, z', ev', li', pa') ∧ fX6_letters mo x1 = some (r, mo') ∧ Rel z' ev' li' te pa' im mo'
def Sim_side (Rel : Fo → Ev → Li → Te → Pa → Im → Mo → Prop) : Prop := ∀ (z : Fo) (ev : Ev) (li : Li) (te : Te) (pa : Pa) (im : Im) (mo : Mo) (x1 : Int32) (x2 : Int32) (x3 : Int32) (x4 : Int32), Rel z ev li te pa im mo → ∃ (r : Int32) (z' : Fo) (ev' : Ev) (pa' : Pa) (mo' : Mo), fX5_side z ev li te pa im x1 x2 x3 x4 = some (r, z', ev', pa') ∧ fX6_side mo x1 x2 x3 x4 = some (r, mo') ∧ Rel z' ev' li te pa' im mo'
def Sim_body (Rel : Fo → Ev → Li → Te → Pa → Im → Mo → Prop) : Prop := ∀ (z : Fo) (ev : Ev) (li : Li) (te : Te) (pa : Pa) (im : Im) (mo : Mo) (x1 : Int32) (x2 : Int32), Rel z ev li te pa im mo → ∃ (r : Int32) (z' : Fo) (ev' : Ev) (pa' : Pa) (mo' : Mo), fX5_body z ev li te pa im x1 x2 = some (r, z', ev', pa') ∧ fX6_body mo x1 x2 = some (r, mo') ∧ Rel z' ev' li te pa' im mo'
def Sim_bound (Rel : Fo → Ev → Li → Te → Pa → Im → Mo → Prop) : Prop := ∀ (z : Fo) (ev : Ev) (li : Li) (te : Te) (pa : Pa) (im : Im) (mo : Mo) (x1 : Int32) (x2 : Int32), Rel z ev li te pa im mo → ∃ (r : Int32) (z' : Fo) (ev' : Ev) (pa' : Pa) (mo' : Mo), fX5_bound z ev li te pa im x1 x2 = some (r, z', ev', pa') ∧ fX6_bound mo x1 x2 = some (r, mo') ∧ Rel z' ev' li te pa' im mo'
def Sim_weight (Rel : Fo → Ev → Li → Te → Pa → Im → Mo → Prop) : Prop := ∀ (z : Fo) (ev : Ev) (li : Li) (te : Te) (pa : Pa) (im : Im) (mo : Mo) (x1 : Int32) (x2 : Int32) (x3 : Int32), Rel z ev li te pa im mo → ∃ (r : Int32) (z' : Fo) (ev' : Ev) (pa' : Pa) (mo' : Mo), fX5_weight z ev li te pa im x1 x2 x3 = some (r, z', ev', pa') ∧ fX6_weight mo x1 x2 x3 = some (r, mo') ∧ Rel z' ev' li te pa' im mo'
def Sim_mirror (Rel : Fo → Ev → Li → Te → Pa → Im → Mo → Prop) : Prop := ∀ (z : Fo) (ev : Ev) (li : Li) (te : Te) (pa : Pa) (im : Im) (mo : Mo) (x1 : Int32), Rel z ev li te pa im mo → ∃ (r : Int32) (z' : Fo) (ev' : Ev) (pa' : Pa) (mo' : Mo), fX5_mirror z ev li te pa im x1 = some (r, z', ev', pa') ∧ fX6_mirror mo x1 = some (r, mo') ∧ Rel z' ev' li te pa' im mo'
def Sim_turn (Rel : Fo → Ev → Li → Te → Pa → Im → Mo → Prop) : Prop := ∀ (z : Fo) (ev : Ev) (li : Li) (te : Te) (pa : Pa) (im : Im) (mo : Mo), Rel z ev li te pa im mo → ∃ (r : Int32) (z' : Fo) (ev' : Ev) (pa' : Pa) (mo' : Mo), fX5_turn z ev li te pa im  = some (r, z', ev', pa') ∧ fX6_turn mo  = some (r, mo') ∧ Rel z' ev' li te pa' im mo'
def Sim_copy (Rel : Fo → Ev → Li → Te → Pa → Im → Mo → Prop) : Prop := ∀ (z : Fo) (ev : Ev) (li : Li) (te : Te) (pa : Pa) (im : Im) (mo : Mo) (x1 : Int32) (x2 : Int32), Rel z ev li te pa im mo → ∃ (r : Int32) (z' : Fo) (ev' : Ev) (pa' : Pa) (mo' : Mo), fX5_copy z ev li te pa im x1 x2 = some (r, z', ev', pa') ∧ fX6_copy mo x1 x2 = some (r, mo') ∧ Rel z' ev' li te pa' im mo'
def Sim_drift (Rel : Fo → Ev → Li → Te → Pa → Im → Mo → Prop) : Prop := ∀ (z : Fo) (ev : Ev) (li : Li) (te : Te) (pa : Pa) (im : Im) (mo : Mo) (x1 : Int32), Rel z ev li te pa im mo → ∃ (r : Int32) (z' : Fo) (ev' : Ev) (pa' : Pa) (mo' : Mo), fX5_drift z ev li te pa im x1 = some (r, z', ev', pa') ∧ fX6_drift mo x1 = some (r, mo') ∧ Rel z' ev' li te pa' im mo'
def Sim_undo (Rel : Fo → Ev → Li → Te → Pa → Im → Mo → Prop) : Prop := ∀ (z : Fo) (ev : Ev) (li : Li) (te : Te) (pa : Pa) (im : Im) (mo : Mo), Rel z ev li te pa im mo → ∃ (r : Int32) (z' : Fo) (ev' : Ev) (li' : Li) (pa' : Pa) (mo' : Mo), fX5_undo z ev li te pa im  = some (r, z', ev', li', pa') ∧ fX6_undo mo  = some (r, mo') ∧ Rel z' ev' li' te pa' im mo'
def Sim_told (Rel : Fo → Ev → Li → Te → Pa → Im → Mo → Prop) : Prop := ∀ (z : Fo) (ev : Ev) (li : Li) (te : Te) (pa : Pa) (im : Im) (mo : Mo) (x1 : Int32), Rel z ev li te pa im mo → ∃ (r : Int64) (ev' : Ev) (te' : Te) (mo' : Mo), fX5_told z ev li te pa im x1 = some (r, ev', te') ∧ fX6_told mo x1 = some (r, mo') ∧ Rel z ev' li te' pa im mo'
def Sim_letter (Rel : Fo → Ev → Li → Te → Pa → Im → Mo → Prop) : Prop := ∀ (z : Fo) (ev : Ev) (li : Li) (te : Te) (pa : Pa) (im : Im) (mo : Mo) (x1 : Int32) (x2 : Int32), Rel z ev li te pa im mo → ∃ (r : Int32), fX5_letter z ev li te pa im x1 x2 = some r ∧ fX6_letter mo x1 x2 = some r ∧ Rel z ev li te pa im mo
def Sim_back (Rel : Fo → Ev → Li → Te → Pa → Im → Mo → Prop) : Prop := ∀ (z : Fo) (ev : Ev) (li : Li) (te : Te) (pa : Pa) (im : Im) (mo : Mo) (x1 : Int32) (x2 : Int32) (x3 : Int32), Rel z ev li te pa im mo → ∃ (r : Int32), fX5_back z ev li te pa im x1 x2 x3 = some r ∧ fX6_back mo x1 x2 x3 = some r ∧ Rel z ev li te pa im mo
def Sim_space (Rel : Fo → Ev → Li → Te → Pa → Im → Mo → Prop) : Prop := ∀ (z : Fo) (ev : Ev) (li : Li) (te : Te) (pa : Pa) (im : Im) (mo : Mo) (x1 : Int32) (x2 : Int32) (x3 : Int32), Rel z ev li te pa im mo → ∃ (r : Int64) (ev' : Ev) (mo' : Mo), fX5_space z ev li te pa im x1 x2 x3 = some (r, ev') ∧ fX6_space mo x1 x2 x3 = some (r, mo') ∧ Rel z ev' li te pa im mo'
def Sim_pair (Rel : Fo → Ev → Li → Te → Pa → Im → Mo → Prop) : Prop := ∀ (z : Fo) (ev : Ev) (li : Li) (te : Te) (pa : Pa) (im : Im) (mo : Mo) (x1 : Int32) (x2 : Int32) (x3 : Int32), Rel z ev li te pa im mo → ∃ (r : Int64) (ev' : Ev) (mo' : Mo), fX5_pair z ev li te pa im x1 x2 x3 = some (r, ev') ∧ fX6_pair mo x1 x2 x3 = some (r, mo') ∧ Rel z ev' li te pa im mo'
def Sim_white (Rel : Fo → Ev → Li → Te → Pa → Im → Mo → Prop) : Prop := ∀ (z : Fo) (ev : Ev) (li : Li) (te : Te) (pa : Pa) (im : Im) (mo : Mo) (x1 : Int32) (x2 : Int32), Rel z ev li te pa im mo → ∃ (r : Int32) (ev' : Ev) (mo' : Mo), fX5_white z ev li te pa im x1 x2 = some (r, ev') ∧ fX6_white mo x1 x2 = some (r, mo') ∧ Rel z ev' li te pa im mo'
def Sim_set (Rel : Fo → Ev → Li → Te → Pa → Im → Mo → Prop) : Prop := ∀ (z : Fo) (ev : Ev) (li : Li) (te : Te) (pa : Pa) (im : Im) (mo : Mo) (x1 : Int32), Rel z ev li te pa im mo → ∃ (r : Int32) (li' : Li) (mo' : Mo), fX5_set z ev li te pa im x1 = some (r, li') ∧ fX6_set mo x1 = some (r, mo') ∧ Rel z ev li' te pa im mo'
def Sim_wipe (Rel : Fo → Ev → Li → Te → Pa → Im → Mo → Prop) : Prop := ∀ (z : Fo) (ev : Ev) (li : Li) (te : Te) (pa : Pa) (im : Im) (mo : Mo), Rel z ev li te pa im mo → ∃ (r : Int32) (li' : Li) (mo' : Mo), fX5_wipe z ev li te pa im  = some (r, li') ∧ fX6_wipe mo  = some (r, mo') ∧ Rel z ev li' te pa im mo'
def Sim_place (Rel : Fo → Ev → Li → Te → Pa → Im → Mo → Prop) : Prop := ∀ (z : Fo) (ev : Ev) (li : Li) (te : Te) (pa : Pa) (im : Im) (mo : Mo) (x1 : Int32), Rel z ev li te pa im mo → ∃ (r : Int32), fX5_place z ev li te pa im x1 = some r ∧ fX6_place mo x1 = some r ∧ Rel z ev li te pa im mo
def Sim_sign (Rel : Fo → Ev → Li → Te → Pa → Im → Mo → Prop) : Prop := ∀ (z : Fo) (ev : Ev) (li : Li) (te : Te) (pa : Pa) (im : Im) (mo : Mo) (x1 : Int32), Rel z ev li te pa im mo → ∃ (r : Int32) (ev' : Ev) (te' : Te) (mo' : Mo), fX5_sign z ev li te pa im x1 = some (r, ev', te') ∧ fX6_sign mo x1 = some (r, mo') ∧ Rel z ev' li te' pa im mo'
def Sim_keep (Rel : Fo → Ev → Li → Te → Pa → Im → Mo → Prop) : Prop := ∀ (z : Fo) (ev : Ev) (li : Li) (te : Te) (pa : Pa) (im : Im) (mo : Mo) (x1 : Int32), Rel z ev li te pa im mo → ∃ (r : Int32) (pa' : Pa) (im' : Im) (mo' : Mo), fX5_keep z ev li te pa im x1 = some (r, pa', im') ∧ fX6_keep mo x1 = some (r, mo') ∧ Rel z ev li te pa' im' mo'
def Sim_goBack (Rel : Fo → Ev → Li → Te → Pa → Im → Mo → Prop) : Prop := ∀ (z : Fo) (ev : Ev) (li : Li) (te : Te) (pa : Pa) (im : Im) (mo : Mo) (x1 : Int32), Rel z ev li te pa im mo → ∃ (r : Int32) (z' : Fo) (ev' : Ev) (li' : Li) (pa' : Pa) (mo' : Mo), fX5_goBack z ev li te pa im x1 = some (r, z', ev', li', pa') ∧ fX6_goBack mo x1 = some (r, mo') ∧ Rel z' ev' li' te pa' im mo'
def AllSim (Rel : Fo → Ev → Li → Te → Pa → Im → Mo → Prop) : Prop := Sim_letters Rel ∧ Sim_side Rel ∧ Sim_body Rel ∧ Sim_bound Rel ∧ Sim_weight Rel ∧ Sim_mirror Rel ∧ Sim_turn Rel ∧ Sim_copy Rel ∧ Sim_drift Rel ∧ Sim_undo Rel ∧ Sim_told Rel ∧ Sim_letter Rel ∧ Sim_back Rel ∧ Sim_space Rel ∧ Sim_pair Rel ∧ Sim_white Rel ∧ Sim_set Rel ∧ Sim_wipe Rel ∧ Sim_place Rel ∧ Sim_sign Rel ∧ Sim_keep Rel ∧ Sim_goBack Rel
theorem va_P.left {D : va_G} {cl : List vw_C} {w1 w2 : va_W} {H : Heap} (h : va_P D cl (w1 ++ w2) H) : va_P D cl w1 H := fun k q hq => h k q (by rw [List.getElem?_append_left (List.getElem?_eq_some_iff.mp hq).1]; exact hq)
theorem va_P.right {D : va_G} {cl : List vw_C} {w1 w2 : va_W} {H : Heap} (h : va_P D cl (w1 ++ w2) H) : va_P D cl w2 H := fun k q hq => h (w1.length + k) q (by rw [List.getElem?_append_right (by omega), Nat.add_sub_cancel_left]; exact hq)
theorem x_mC {p : Program} {l : Launch} {e : Env} {R : Room} {s : State} {m : MethodId} {args : Array Value} {below : List Frame} {meth : Method} {c : Code} {H : Heap} {locs : List Loc} {cells slots : Nat} {Q : State → Prop}
    {cc : ByteArray} {pc : Nat} {ls : Array Slot} {rest st0 : List Value} {E : xG} {A : Nat → Prop} {pre post : va_W} {H0 : Heap}
    {y : MethodName} {bytes : ByteArray} {maxL nL n index : Nat} {ret : Option FieldType} {wsY : List Cond} {rm : Room} {Ts : List Cond} {own C : String} {b : Addr} {As : List Value} {wc : va_W}
    {w1 : va_W} {ro : Option Value} (S : CallFix p m c cc nL s args Ts own) (hK : xK E s) (hM : xMut l y wsY rm E (.ref b :: As) wc ro w1) (cw : CallW R s args own C index y bytes maxL ret wsY rm 0 0 n) (hP : va_P (xD E) vwCl (pre ++ (wc ++ post)) H) (hD : va_D A (pre ++ (wc ++ post))) (hS : va_S A H0 H locs) (ha : w1.map (fun q => q.1) = wc.map (fun q => q.1)) (q0 : Nat) {ci : Nat} {q : vw_C} {fs : List Value} (he : wc[q0]? = some (b, .inr (ci, fs))) (hc : vwCl[ci]? = some q) (hCl : q.1 = C)
    (hn : As.length = n) (hsize : ls.size = nL) (hW : (rest.map fun v => v.category).sum ≤ 8) (hdg : decode cc pc = .ok (.invokevirtual index, 3)) (hst : st0 = As.reverse ++ .ref b :: rest) (hf : cells ≤ R.cells ∧ slots ≤ R.slots)
    (kk : ∀ (H1 : Heap) (locs1 : List Loc), va_P (xD E) vwCl (pre ++ (w1 ++ post)) H1 → va_D A (pre ++ (w1 ++ post)) → va_S A H0 H1 locs1 → W p l e R s m args below meth c H1 locs1 cells slots Q (F0 m (pc + 3) ls (ro.toList ++ rest))) : W p l e R s m args below meth c H locs cells slots Q (F0 m pc ls st0) := by
  subst hCl
  have hat : ∀ (k : Nat) (q : Nat × va_E), wc[k]? = some q → (pre ++ (wc ++ post))[pre.length + k]? = some q := by
    intro k q hq
    rw [List.getElem?_append_right (by omega), Nat.add_sub_cancel_left, List.getElem?_append_left (List.getElem?_eq_some_iff.mp hq).1]
    exact hq
  have hDc : va_D A wc := ⟨fun i j p q hi hj hpq => by
    have := hD.1 _ _ p q (hat i p hi) (hat j q hj) hpq
    omega, fun k q hk => hD.2 _ q (hat k q hk)⟩
  have hPc : va_P (xD E) vwCl wc H := fun k q hq => hP _ q (hat k q hq)
  have hAc : ∀ q, xA wc q → A q := fun q h => by
    obtain ⟨k, e, h⟩ := h
    exact hDc.2 k (q, e) h
  have hr := va_runV (g := F0 m pc ls st0) (H := H) (locs := locs) (cells := cells) (slots := slots) (e := e) (below := below) (meth := meth) S hM cw ⟨xPreM.blind, va_recv hK.1 hPc hc he, fun U hU hW => ⟨rfl, by rw [hU]; exact hPc, hK.warm hW, hDc.weaken (fun _ _ _ _ => trivial)⟩⟩ rfl hn hsize hst (lv_room (ls := ls) (m := m) (pc := pc) (rest := rest) hW) hdg hf
  intro T hT X
  obtain ⟨v, st₀, t, T', L, h0, X', hL, e1, e2, ⟨hv, hp, hz, hk⟩, st⟩ := hr T hT X
  cases hv
  rw [h0] at hz hk
  obtain ⟨hP1, hD1⟩ := x_joinR hP hD ha hk hp
  obtain ⟨t2, a1, b1⟩ := kk T'.heap (locs ++ L) (by rw [e1]; exact hP1) hD1
    ⟨Nat.le_trans hS.1 (by rw [e1]; exact hz), fun q h1 h2 => by rw [e1, hk q (Nat.lt_of_lt_of_le h1 hS.1) (fun z => h2 (hAc q z))]; exact hS.2.1 q h1 h2, fun q hq => by
      rcases List.mem_append.mp hq with h | h
      · exact hS.2.2 q h
      · exact hAc _ (hL q h)⟩ T' rfl X'
  exact ⟨t2, st t2 a1, b1⟩
theorem x_inS {i L k : Nat} {kk : Int32} (hk : kk = nI k) (h : i + 5 ≤ L) (hL : L ≤ 2560) (h5 : k < 5) : vp_in (nI i + kk) L := by
  rw [hk, nI_add]
  exact vp_in_nI (by omega) (by omega)
theorem x_tab21 {x : Int32} (h0 : ¬ x = 0) (h1 : ¬ x = 1) (h2 : ¬ x = 2) (h3 : ¬ x = 3) (h4 : ¬ x = 4) (h5 : ¬ x = 5) (h6 : ¬ x = 6) (h7 : ¬ x = 7) (h8 : ¬ x = 8) (h9 : ¬ x = 9) (h10 : ¬ x = 10) (h11 : ¬ x = 11) (h12 : ¬ x = 12) (h13 : ¬ x = 13) (h14 : ¬ x = 14) (h15 : ¬ x = 15) (h16 : ¬ x = 16) (h17 : ¬ x = 17) (h18 : ¬ x = 18) (h19 : ¬ x = 19) (h20 : ¬ x = 20) (h21 : ¬ x = 21) : x.toInt < 0 ∨ 21 < x.toInt := by
  have q0 := x_ne (n := 0) h0 (by decide)
  have q1 := x_ne (n := 1) h1 (by decide)
  have q2 := x_ne (n := 2) h2 (by decide)
  have q3 := x_ne (n := 3) h3 (by decide)
  have q4 := x_ne (n := 4) h4 (by decide)
  have q5 := x_ne (n := 5) h5 (by decide)
  have q6 := x_ne (n := 6) h6 (by decide)
  have q7 := x_ne (n := 7) h7 (by decide)
  have q8 := x_ne (n := 8) h8 (by decide)
  have q9 := x_ne (n := 9) h9 (by decide)
  have q10 := x_ne (n := 10) h10 (by decide)
  have q11 := x_ne (n := 11) h11 (by decide)
  have q12 := x_ne (n := 12) h12 (by decide)
  have q13 := x_ne (n := 13) h13 (by decide)
  have q14 := x_ne (n := 14) h14 (by decide)
  have q15 := x_ne (n := 15) h15 (by decide)
  have q16 := x_ne (n := 16) h16 (by decide)
  have q17 := x_ne (n := 17) h17 (by decide)
  have q18 := x_ne (n := 18) h18 (by decide)
  have q19 := x_ne (n := 19) h19 (by decide)
  have q20 := x_ne (n := 20) h20 (by decide)
  have q21 := x_ne (n := 21) h21 (by decide)
  omega
/-! THE CLAIM OUT OF ONE WALK OF THE LAW'S BODY. Your part is whole_start (and what it stands on); all else here is the same for every law, but numbers. -/
def R_law : String := "EvenWhiteLaw"
def lw_P (b : Addr) (xs : List Int32) (args : Array Value) (s : State) : Prop := args = #[.ref b] ∧ s.IntsAt b xs ∧ xs.length ≤ 2560 ∧ (Jvm.Cond.and given_1 narrow_1).before args s = true
def lw_Q (_ : Array Value) (s : State) (o : Outcome) (t : State) : Prop := o = .returned (some (.int 1)) ∧ Framed s o t [] 600000 7302250
def lw_Z (below : List Frame) (a : Array Value) (s : State) : State → Prop := fun t => ∃ o, t.status = .running ∧ Ended t below o ∧ lw_Q a s o t
/-- the law's own end, with 1 on the stack, nothing written that was there before, its room as the claim has it -/
theorem lw_ret {p : Program} {l : Launch} {e : Env} {s : State} {m : MethodId} {below : List Frame} {meth : Method} {c : Code} {b : Nat} (hx : p.tables.exec = Jvm.exec) (hb : c.code = code) (hr : meth.sig.returnType = ret) (hlocks : meth.locks = false) {pc : Nat} {H : Heap} {ls : Array Slot} (hdg : decode code pc = .ok (.ireturn, 1)) : W p l e room_1 s m #[Value.ref b] below meth c H [] 600000 7302250 (lw_Z below #[Value.ref b] s) (F0 m pc ls [.int 1]) := by
  intro T hT X
  obtain ⟨fs, hret, hrun, hended, hW, hframe⟩ := X.leave (v := some (.int 1)) (hlocks := hlocks) (fun h => by rw [hr] at h; cases h)
  have hmeth' : T.vm.method? m = some meth := X.method'
  refine ⟨T.setFrames fs, ?_, .returned (some (.int 1)), hrun, hended, rfl, ⟨_, rfl⟩, hW, hframe⟩
  jvm_step X.here [X.here.top, hx, hb, hdg, hmeth', hr, ret, narrow_b1]
  (try refine ⟨rfl, ?_⟩); (try refine ⟨rfl, ?_⟩)
  first | (intro acts; rw [hret _ acts rfl rfl rfl]) | rw [hret _ _ rfl rfl rfl]
  exact Steps.refl _
/-- what holds at the law's entry: the machine, the code, the tables' words (any of lw_tbl by 'hts w (by decide +kernel)'), the script of L ints xs at the cell b, what the Statement gives of the start (any of its parts by flat_of_before) -/
def lw_At (p : Program) (s : State) (m : MethodId) (meth : Method) (c : Code) (b L : Nat) (xs : Nat → Int32) : Prop :=
  p.tables.exec = Jvm.exec ∧ c.code = code ∧ meth.sig.returnType = ret ∧ c.maxLocals = 4 ∧ s.vm.findClass R_law = some m.cls ∧ (∀ w ∈ lw_tbl, w.before #[Value.ref b] s = true) ∧ va_X b L xs s s.heap ∧ b < s.heap.size ∧ meth.locks = false ∧ (Jvm.Cond.and given_1 narrow_1).before #[Value.ref b] s = true
set_option maxHeartbeats 4000000 in
set_option maxRecDepth 100000 in
theorem law_case_letters {p : Program} {l : Launch} {e : Env} {s : State} {m : MethodId} {below : List Frame} {meth : Method} {c : Code} {b L : Nat} {xs : Nat → Int32} (hL : L ≤ 2560) (C0 : lw_At p s m meth c b L xs) {E : xG} (hK : xK E s) {tq : Nat → Nat} {f : Nat → Nat} {q : Nat → Nat} {g : Nat → Nat} {h : Nat → Nat} {pq : Nat → Nat} {rq : Nat → Nat → Nat} {bq : Nat → Nat → Nat} {uq : Nat → Nat} (Rel : Fo → Ev → Li → Te → Pa → Im → Mo → Prop) (hsim : Sim_letters Rel) {i : Nat} (hi : i + 5 ≤ L) {ls : Array Slot} (hl : lv_has ls 4 [(0, .ref b), (1, .ref (tq 0)), (2, .ref (uq 0)), (3, .int (nI i))]) {z : Fo} {ev : Ev} {li : Li} {te : Te} {pa : Pa} {im : Im} {mo : Mo} {H : Heap} {locs : List Loc} (hRel : Rel z ev li te pa im mo) (hP : va_P (xD E) vwCl (wW E tq f q g h pq rq bq z ev li te pa im ++ wM E uq mo) H) (hD : va_D (fun q : Nat => s.heap.size ≤ q) (wW E tq f q g h pq rq bq z ev li te pa im ++ wM E uq mo)) (hS : va_S (fun q : Nat => s.heap.size ≤ q) s.heap H locs) (kx : (∀ (z' : Fo) (ev' : Ev) (li' : Li) (te' : Te) (pa' : Pa) (im' : Im) (mo' : Mo) (H : Heap) (locs : List Loc), Rel z' ev' li' te' pa' im' mo' → va_P (xD E) vwCl (wW E tq f q g h pq rq bq z' ev' li' te' pa' im' ++ wM E uq mo') H → va_D (fun q : Nat => s.heap.size ≤ q) (wW E tq f q g h pq rq bq z' ev' li' te' pa' im' ++ wM E uq mo') → va_S (fun q : Nat => s.heap.size ≤ q) s.heap H locs → W p l e room_1 s m #[Value.ref b] below meth c H locs 600000 7302250 (lw_Z below #[Value.ref b] s) (F0 m 775 ls []))) : W p l e room_1 s m #[Value.ref b] below meth c H locs 600000 7302250 (lw_Z below #[Value.ref b] s) (F0 m 136 ls []) := by
  obtain ⟨hx, hb, hr, hml, hown, hts, hX, hbl, hlocks, hgv⟩ := id C0
  have hts := fun w h => hts w (wsL_law_in w h)
  have hbA : ¬ (fun q : Nat => s.heap.size ≤ q) b := Nat.not_le.mpr hbl
  have S : CallFix p m c cL_law 4 s #[Value.ref b] wsL_law RL := ⟨hx, hb, hml, hown, hts⟩
  have hi1 : vp_in (nI i + 1) L := x_inS (k := 1) rfl hi hL (by decide)
  obtain ⟨r, z', ev', li', pa', mo', hf1, hf2, hRel⟩ := hsim z ev li te pa im mo (xs (nI i + 1).toNatClampNeg) hRel
  refine lv_aload_n hx hb dL_law_136 rfl (lv_at hl 1 rfl) ?_
  refine lv_aload_n hx hb dL_law_137 rfl (lv_at hl 0 rfl) ?_
  refine lv_iload_n hx hb dL_law_138 rfl (lv_at hl 3 rfl) ?_
  refine lv_iconst (v := 1) hx hb dL_law_139 (by decide) ?_
  refine lv_iadd hx hb dL_law_140 ?_
  refine va_sld hx hb hX hbl hbA hS hi1 dL_law_141 ?_
  refine x_mC (pre := []) (post := wM E uq mo) (As := [.int (xs (nI i + 1).toNatClampNeg)]) (rest := []) S hK (kX5_letters l E tq f q g h pq rq bq z ev li te pa im (xs (nI i + 1).toNatClampNeg) hf1) (cwV 1 hts gL_law_X5_letters rfl rfl rfl (by decide +kernel) ⟨Nat.le_of_ble_eq_true rfl, Nat.le_of_ble_eq_true rfl⟩) hP hD hS rfl 0 rfl rfl rfl rfl hl.1 (Nat.le_of_ble_eq_true rfl) dL_law_142 rfl ⟨Nat.le_refl _, Nat.le_refl _⟩ (fun H locs hP hD hS => ?_)
  have hP : va_P (xD E) vwCl (wW E tq f q g h pq rq bq z' ev' li' te pa' im ++ wM E uq mo) H := hP
  have hD : va_D (fun q : Nat => s.heap.size ≤ q) (wW E tq f q g h pq rq bq z' ev' li' te pa' im ++ wM E uq mo) := hD
  refine lv_aload_n hx hb dL_law_145 rfl (lv_at hl 2 rfl) ?_
  refine lv_aload_n hx hb dL_law_146 rfl (lv_at hl 0 rfl) ?_
  refine lv_iload_n hx hb dL_law_147 rfl (lv_at hl 3 rfl) ?_
  refine lv_iconst (v := 1) hx hb dL_law_148 (by decide) ?_
  refine lv_iadd hx hb dL_law_149 ?_
  refine va_sld hx hb hX hbl hbA hS hi1 dL_law_150 ?_
  have hP : va_P (xD E) vwCl (wW E tq f q g h pq rq bq z' ev' li' te pa' im ++ (wM E uq mo ++ [])) H := by rw [List.append_nil]; exact hP
  have hD : va_D (fun q : Nat => s.heap.size ≤ q) (wW E tq f q g h pq rq bq z' ev' li' te pa' im ++ (wM E uq mo ++ [])) := by rw [List.append_nil]; exact hD
  refine x_mC (pre := wW E tq f q g h pq rq bq z' ev' li' te pa' im) (post := []) (As := [.int (xs (nI i + 1).toNatClampNeg)]) (rest := [.int r]) S hK (kX6_letters l E uq mo (xs (nI i + 1).toNatClampNeg) hf2) (cwV 1 hts gL_law_X6_letters rfl rfl rfl (by decide +kernel) ⟨Nat.le_of_ble_eq_true rfl, Nat.le_of_ble_eq_true rfl⟩) hP hD hS rfl 0 rfl rfl rfl rfl hl.1 (Nat.le_of_ble_eq_true rfl) dL_law_151 rfl ⟨Nat.le_refl _, Nat.le_refl _⟩ (fun H locs hP hD hS => ?_)
  have hP : va_P (xD E) vwCl (wW E tq f q g h pq rq bq z' ev' li' te pa' im ++ (wM E uq mo' ++ [])) H := hP
  have hD : va_D (fun q : Nat => s.heap.size ≤ q) (wW E tq f q g h pq rq bq z' ev' li' te pa' im ++ (wM E uq mo' ++ [])) := hD
  rw [List.append_nil] at hP hD
  refine lv_icmp_eq (tgt := 775) hx hb dL_law_154 (by decide) (fun _ => ?_) (fun cn => absurd rfl cn)
  exact kx z' ev' li' te pa' im mo' _ _ hRel hP hD hS
set_option maxHeartbeats 4000000 in
set_option maxRecDepth 100000 in
theorem law_case_side {p : Program} {l : Launch} {e : Env} {s : State} {m : MethodId} {below : List Frame} {meth : Method} {c : Code} {b L : Nat} {xs : Nat → Int32} (hL : L ≤ 2560) (C0 : lw_At p s m meth c b L xs) {E : xG} (hK : xK E s) {tq : Nat → Nat} {f : Nat → Nat} {q : Nat → Nat} {g : Nat → Nat} {h : Nat → Nat} {pq : Nat → Nat} {rq : Nat → Nat → Nat} {bq : Nat → Nat → Nat} {uq : Nat → Nat} (Rel : Fo → Ev → Li → Te → Pa → Im → Mo → Prop) (hsim : Sim_side Rel) {i : Nat} (hi : i + 5 ≤ L) {ls : Array Slot} (hl : lv_has ls 4 [(0, .ref b), (1, .ref (tq 0)), (2, .ref (uq 0)), (3, .int (nI i))]) {z : Fo} {ev : Ev} {li : Li} {te : Te} {pa : Pa} {im : Im} {mo : Mo} {H : Heap} {locs : List Loc} (hRel : Rel z ev li te pa im mo) (hP : va_P (xD E) vwCl (wW E tq f q g h pq rq bq z ev li te pa im ++ wM E uq mo) H) (hD : va_D (fun q : Nat => s.heap.size ≤ q) (wW E tq f q g h pq rq bq z ev li te pa im ++ wM E uq mo)) (hS : va_S (fun q : Nat => s.heap.size ≤ q) s.heap H locs) (kx : (∀ (z' : Fo) (ev' : Ev) (li' : Li) (te' : Te) (pa' : Pa) (im' : Im) (mo' : Mo) (H : Heap) (locs : List Loc), Rel z' ev' li' te' pa' im' mo' → va_P (xD E) vwCl (wW E tq f q g h pq rq bq z' ev' li' te' pa' im' ++ wM E uq mo') H → va_D (fun q : Nat => s.heap.size ≤ q) (wW E tq f q g h pq rq bq z' ev' li' te' pa' im' ++ wM E uq mo') → va_S (fun q : Nat => s.heap.size ≤ q) s.heap H locs → W p l e room_1 s m #[Value.ref b] below meth c H locs 600000 7302250 (lw_Z below #[Value.ref b] s) (F0 m 775 ls []))) : W p l e room_1 s m #[Value.ref b] below meth c H locs 600000 7302250 (lw_Z below #[Value.ref b] s) (F0 m 159 ls []) := by
  obtain ⟨hx, hb, hr, hml, hown, hts, hX, hbl, hlocks, hgv⟩ := id C0
  have hts := fun w h => hts w (wsL_law_in w h)
  have hbA : ¬ (fun q : Nat => s.heap.size ≤ q) b := Nat.not_le.mpr hbl
  have S : CallFix p m c cL_law 4 s #[Value.ref b] wsL_law RL := ⟨hx, hb, hml, hown, hts⟩
  have hi1 : vp_in (nI i + 1) L := x_inS (k := 1) rfl hi hL (by decide)
  have hi2 : vp_in (nI i + 2) L := x_inS (k := 2) rfl hi hL (by decide)
  have hi3 : vp_in (nI i + 3) L := x_inS (k := 3) rfl hi hL (by decide)
  have hi4 : vp_in (nI i + 4) L := x_inS (k := 4) rfl hi hL (by decide)
  obtain ⟨r, z', ev', pa', mo', hf1, hf2, hRel⟩ := hsim z ev li te pa im mo (xs (nI i + 1).toNatClampNeg) (xs (nI i + 2).toNatClampNeg) (xs (nI i + 3).toNatClampNeg) (xs (nI i + 4).toNatClampNeg) hRel
  refine lv_aload_n hx hb dL_law_159 rfl (lv_at hl 1 rfl) ?_
  refine lv_aload_n hx hb dL_law_160 rfl (lv_at hl 0 rfl) ?_
  refine lv_iload_n hx hb dL_law_161 rfl (lv_at hl 3 rfl) ?_
  refine lv_iconst (v := 1) hx hb dL_law_162 (by decide) ?_
  refine lv_iadd hx hb dL_law_163 ?_
  refine va_sld hx hb hX hbl hbA hS hi1 dL_law_164 ?_
  refine lv_aload_n hx hb dL_law_165 rfl (lv_at hl 0 rfl) ?_
  refine lv_iload_n hx hb dL_law_166 rfl (lv_at hl 3 rfl) ?_
  refine lv_iconst (v := 2) hx hb dL_law_167 (by decide) ?_
  refine lv_iadd hx hb dL_law_168 ?_
  refine va_sld hx hb hX hbl hbA hS hi2 dL_law_169 ?_
  refine lv_aload_n hx hb dL_law_170 rfl (lv_at hl 0 rfl) ?_
  refine lv_iload_n hx hb dL_law_171 rfl (lv_at hl 3 rfl) ?_
  refine lv_iconst (v := 3) hx hb dL_law_172 (by decide) ?_
  refine lv_iadd hx hb dL_law_173 ?_
  refine va_sld hx hb hX hbl hbA hS hi3 dL_law_174 ?_
  refine lv_aload_n hx hb dL_law_175 rfl (lv_at hl 0 rfl) ?_
  refine lv_iload_n hx hb dL_law_176 rfl (lv_at hl 3 rfl) ?_
  refine lv_iconst (v := 4) hx hb dL_law_177 (by decide) ?_
  refine lv_iadd hx hb dL_law_178 ?_
  refine va_sld hx hb hX hbl hbA hS hi4 dL_law_179 ?_
  refine x_mC (pre := []) (post := wM E uq mo) (As := [.int (xs (nI i + 1).toNatClampNeg), .int (xs (nI i + 2).toNatClampNeg), .int (xs (nI i + 3).toNatClampNeg), .int (xs (nI i + 4).toNatClampNeg)]) (rest := []) S hK (kX5_side l E tq f q g h pq rq bq z ev li te pa im (xs (nI i + 1).toNatClampNeg) (xs (nI i + 2).toNatClampNeg) (xs (nI i + 3).toNatClampNeg) (xs (nI i + 4).toNatClampNeg) hf1) (cwV 4 hts gL_law_X5_side rfl rfl rfl (by decide +kernel) ⟨Nat.le_of_ble_eq_true rfl, Nat.le_of_ble_eq_true rfl⟩) hP hD hS rfl 0 rfl rfl rfl rfl hl.1 (Nat.le_of_ble_eq_true rfl) dL_law_180 rfl ⟨Nat.le_refl _, Nat.le_refl _⟩ (fun H locs hP hD hS => ?_)
  have hP : va_P (xD E) vwCl (wW E tq f q g h pq rq bq z' ev' li te pa' im ++ wM E uq mo) H := hP
  have hD : va_D (fun q : Nat => s.heap.size ≤ q) (wW E tq f q g h pq rq bq z' ev' li te pa' im ++ wM E uq mo) := hD
  refine lv_aload_n hx hb dL_law_183 rfl (lv_at hl 2 rfl) ?_
  refine lv_aload_n hx hb dL_law_184 rfl (lv_at hl 0 rfl) ?_
  refine lv_iload_n hx hb dL_law_185 rfl (lv_at hl 3 rfl) ?_
  refine lv_iconst (v := 1) hx hb dL_law_186 (by decide) ?_
  refine lv_iadd hx hb dL_law_187 ?_
  refine va_sld hx hb hX hbl hbA hS hi1 dL_law_188 ?_
  refine lv_aload_n hx hb dL_law_189 rfl (lv_at hl 0 rfl) ?_
  refine lv_iload_n hx hb dL_law_190 rfl (lv_at hl 3 rfl) ?_
  refine lv_iconst (v := 2) hx hb dL_law_191 (by decide) ?_
  refine lv_iadd hx hb dL_law_192 ?_
  refine va_sld hx hb hX hbl hbA hS hi2 dL_law_193 ?_
  refine lv_aload_n hx hb dL_law_194 rfl (lv_at hl 0 rfl) ?_
  refine lv_iload_n hx hb dL_law_195 rfl (lv_at hl 3 rfl) ?_
  refine lv_iconst (v := 3) hx hb dL_law_196 (by decide) ?_
  refine lv_iadd hx hb dL_law_197 ?_
  refine va_sld hx hb hX hbl hbA hS hi3 dL_law_198 ?_
  refine lv_aload_n hx hb dL_law_199 rfl (lv_at hl 0 rfl) ?_
  refine lv_iload_n hx hb dL_law_200 rfl (lv_at hl 3 rfl) ?_
  refine lv_iconst (v := 4) hx hb dL_law_201 (by decide) ?_
  refine lv_iadd hx hb dL_law_202 ?_
  refine va_sld hx hb hX hbl hbA hS hi4 dL_law_203 ?_
  have hP : va_P (xD E) vwCl (wW E tq f q g h pq rq bq z' ev' li te pa' im ++ (wM E uq mo ++ [])) H := by rw [List.append_nil]; exact hP
  have hD : va_D (fun q : Nat => s.heap.size ≤ q) (wW E tq f q g h pq rq bq z' ev' li te pa' im ++ (wM E uq mo ++ [])) := by rw [List.append_nil]; exact hD
  refine x_mC (pre := wW E tq f q g h pq rq bq z' ev' li te pa' im) (post := []) (As := [.int (xs (nI i + 1).toNatClampNeg), .int (xs (nI i + 2).toNatClampNeg), .int (xs (nI i + 3).toNatClampNeg), .int (xs (nI i + 4).toNatClampNeg)]) (rest := [.int r]) S hK (kX6_side l E uq mo (xs (nI i + 1).toNatClampNeg) (xs (nI i + 2).toNatClampNeg) (xs (nI i + 3).toNatClampNeg) (xs (nI i + 4).toNatClampNeg) hf2) (cwV 4 hts gL_law_X6_side rfl rfl rfl (by decide +kernel) ⟨Nat.le_of_ble_eq_true rfl, Nat.le_of_ble_eq_true rfl⟩) hP hD hS rfl 0 rfl rfl rfl rfl hl.1 (Nat.le_of_ble_eq_true rfl) dL_law_204 rfl ⟨Nat.le_refl _, Nat.le_refl _⟩ (fun H locs hP hD hS => ?_)
  have hP : va_P (xD E) vwCl (wW E tq f q g h pq rq bq z' ev' li te pa' im ++ (wM E uq mo' ++ [])) H := hP
  have hD : va_D (fun q : Nat => s.heap.size ≤ q) (wW E tq f q g h pq rq bq z' ev' li te pa' im ++ (wM E uq mo' ++ [])) := hD
  rw [List.append_nil] at hP hD
  refine lv_icmp_eq (tgt := 775) hx hb dL_law_207 (by decide) (fun _ => ?_) (fun cn => absurd rfl cn)
  exact kx z' ev' li te pa' im mo' _ _ hRel hP hD hS
set_option maxHeartbeats 4000000 in
set_option maxRecDepth 100000 in
theorem law_case_body {p : Program} {l : Launch} {e : Env} {s : State} {m : MethodId} {below : List Frame} {meth : Method} {c : Code} {b L : Nat} {xs : Nat → Int32} (hL : L ≤ 2560) (C0 : lw_At p s m meth c b L xs) {E : xG} (hK : xK E s) {tq : Nat → Nat} {f : Nat → Nat} {q : Nat → Nat} {g : Nat → Nat} {h : Nat → Nat} {pq : Nat → Nat} {rq : Nat → Nat → Nat} {bq : Nat → Nat → Nat} {uq : Nat → Nat} (Rel : Fo → Ev → Li → Te → Pa → Im → Mo → Prop) (hsim : Sim_body Rel) {i : Nat} (hi : i + 5 ≤ L) {ls : Array Slot} (hl : lv_has ls 4 [(0, .ref b), (1, .ref (tq 0)), (2, .ref (uq 0)), (3, .int (nI i))]) {z : Fo} {ev : Ev} {li : Li} {te : Te} {pa : Pa} {im : Im} {mo : Mo} {H : Heap} {locs : List Loc} (hRel : Rel z ev li te pa im mo) (hP : va_P (xD E) vwCl (wW E tq f q g h pq rq bq z ev li te pa im ++ wM E uq mo) H) (hD : va_D (fun q : Nat => s.heap.size ≤ q) (wW E tq f q g h pq rq bq z ev li te pa im ++ wM E uq mo)) (hS : va_S (fun q : Nat => s.heap.size ≤ q) s.heap H locs) (kx : (∀ (z' : Fo) (ev' : Ev) (li' : Li) (te' : Te) (pa' : Pa) (im' : Im) (mo' : Mo) (H : Heap) (locs : List Loc), Rel z' ev' li' te' pa' im' mo' → va_P (xD E) vwCl (wW E tq f q g h pq rq bq z' ev' li' te' pa' im' ++ wM E uq mo') H → va_D (fun q : Nat => s.heap.size ≤ q) (wW E tq f q g h pq rq bq z' ev' li' te' pa' im' ++ wM E uq mo') → va_S (fun q : Nat => s.heap.size ≤ q) s.heap H locs → W p l e room_1 s m #[Value.ref b] below meth c H locs 600000 7302250 (lw_Z below #[Value.ref b] s) (F0 m 775 ls []))) : W p l e room_1 s m #[Value.ref b] below meth c H locs 600000 7302250 (lw_Z below #[Value.ref b] s) (F0 m 212 ls []) := by
  obtain ⟨hx, hb, hr, hml, hown, hts, hX, hbl, hlocks, hgv⟩ := id C0
  have hts := fun w h => hts w (wsL_law_in w h)
  have hbA : ¬ (fun q : Nat => s.heap.size ≤ q) b := Nat.not_le.mpr hbl
  have S : CallFix p m c cL_law 4 s #[Value.ref b] wsL_law RL := ⟨hx, hb, hml, hown, hts⟩
  have hi1 : vp_in (nI i + 1) L := x_inS (k := 1) rfl hi hL (by decide)
  have hi2 : vp_in (nI i + 2) L := x_inS (k := 2) rfl hi hL (by decide)
  obtain ⟨r, z', ev', pa', mo', hf1, hf2, hRel⟩ := hsim z ev li te pa im mo (xs (nI i + 1).toNatClampNeg) (xs (nI i + 2).toNatClampNeg) hRel
  refine lv_aload_n hx hb dL_law_212 rfl (lv_at hl 1 rfl) ?_
  refine lv_aload_n hx hb dL_law_213 rfl (lv_at hl 0 rfl) ?_
  refine lv_iload_n hx hb dL_law_214 rfl (lv_at hl 3 rfl) ?_
  refine lv_iconst (v := 1) hx hb dL_law_215 (by decide) ?_
  refine lv_iadd hx hb dL_law_216 ?_
  refine va_sld hx hb hX hbl hbA hS hi1 dL_law_217 ?_
  refine lv_aload_n hx hb dL_law_218 rfl (lv_at hl 0 rfl) ?_
  refine lv_iload_n hx hb dL_law_219 rfl (lv_at hl 3 rfl) ?_
  refine lv_iconst (v := 2) hx hb dL_law_220 (by decide) ?_
  refine lv_iadd hx hb dL_law_221 ?_
  refine va_sld hx hb hX hbl hbA hS hi2 dL_law_222 ?_
  refine x_mC (pre := []) (post := wM E uq mo) (As := [.int (xs (nI i + 1).toNatClampNeg), .int (xs (nI i + 2).toNatClampNeg)]) (rest := []) S hK (kX5_body l E tq f q g h pq rq bq z ev li te pa im (xs (nI i + 1).toNatClampNeg) (xs (nI i + 2).toNatClampNeg) hf1) (cwV 2 hts gL_law_X5_body rfl rfl rfl (by decide +kernel) ⟨Nat.le_of_ble_eq_true rfl, Nat.le_of_ble_eq_true rfl⟩) hP hD hS rfl 0 rfl rfl rfl rfl hl.1 (Nat.le_of_ble_eq_true rfl) dL_law_223 rfl ⟨Nat.le_refl _, Nat.le_refl _⟩ (fun H locs hP hD hS => ?_)
  have hP : va_P (xD E) vwCl (wW E tq f q g h pq rq bq z' ev' li te pa' im ++ wM E uq mo) H := hP
  have hD : va_D (fun q : Nat => s.heap.size ≤ q) (wW E tq f q g h pq rq bq z' ev' li te pa' im ++ wM E uq mo) := hD
  refine lv_aload_n hx hb dL_law_226 rfl (lv_at hl 2 rfl) ?_
  refine lv_aload_n hx hb dL_law_227 rfl (lv_at hl 0 rfl) ?_
  refine lv_iload_n hx hb dL_law_228 rfl (lv_at hl 3 rfl) ?_
  refine lv_iconst (v := 1) hx hb dL_law_229 (by decide) ?_
  refine lv_iadd hx hb dL_law_230 ?_
  refine va_sld hx hb hX hbl hbA hS hi1 dL_law_231 ?_
  refine lv_aload_n hx hb dL_law_232 rfl (lv_at hl 0 rfl) ?_
  refine lv_iload_n hx hb dL_law_233 rfl (lv_at hl 3 rfl) ?_
  refine lv_iconst (v := 2) hx hb dL_law_234 (by decide) ?_
  refine lv_iadd hx hb dL_law_235 ?_
  refine va_sld hx hb hX hbl hbA hS hi2 dL_law_236 ?_
  have hP : va_P (xD E) vwCl (wW E tq f q g h pq rq bq z' ev' li te pa' im ++ (wM E uq mo ++ [])) H := by rw [List.append_nil]; exact hP
  have hD : va_D (fun q : Nat => s.heap.size ≤ q) (wW E tq f q g h pq rq bq z' ev' li te pa' im ++ (wM E uq mo ++ [])) := by rw [List.append_nil]; exact hD
  refine x_mC (pre := wW E tq f q g h pq rq bq z' ev' li te pa' im) (post := []) (As := [.int (xs (nI i + 1).toNatClampNeg), .int (xs (nI i + 2).toNatClampNeg)]) (rest := [.int r]) S hK (kX6_body l E uq mo (xs (nI i + 1).toNatClampNeg) (xs (nI i + 2).toNatClampNeg) hf2) (cwV 2 hts gL_law_X6_body rfl rfl rfl (by decide +kernel) ⟨Nat.le_of_ble_eq_true rfl, Nat.le_of_ble_eq_true rfl⟩) hP hD hS rfl 0 rfl rfl rfl rfl hl.1 (Nat.le_of_ble_eq_true rfl) dL_law_237 rfl ⟨Nat.le_refl _, Nat.le_refl _⟩ (fun H locs hP hD hS => ?_)
  have hP : va_P (xD E) vwCl (wW E tq f q g h pq rq bq z' ev' li te pa' im ++ (wM E uq mo' ++ [])) H := hP
  have hD : va_D (fun q : Nat => s.heap.size ≤ q) (wW E tq f q g h pq rq bq z' ev' li te pa' im ++ (wM E uq mo' ++ [])) := hD
  rw [List.append_nil] at hP hD
  refine lv_icmp_eq (tgt := 775) hx hb dL_law_240 (by decide) (fun _ => ?_) (fun cn => absurd rfl cn)
  exact kx z' ev' li te pa' im mo' _ _ hRel hP hD hS
set_option maxHeartbeats 4000000 in
set_option maxRecDepth 100000 in
theorem law_case_bound {p : Program} {l : Launch} {e : Env} {s : State} {m : MethodId} {below : List Frame} {meth : Method} {c : Code} {b L : Nat} {xs : Nat → Int32} (hL : L ≤ 2560) (C0 : lw_At p s m meth c b L xs) {E : xG} (hK : xK E s) {tq : Nat → Nat} {f : Nat → Nat} {q : Nat → Nat} {g : Nat → Nat} {h : Nat → Nat} {pq : Nat → Nat} {rq : Nat → Nat → Nat} {bq : Nat → Nat → Nat} {uq : Nat → Nat} (Rel : Fo → Ev → Li → Te → Pa → Im → Mo → Prop) (hsim : Sim_bound Rel) {i : Nat} (hi : i + 5 ≤ L) {ls : Array Slot} (hl : lv_has ls 4 [(0, .ref b), (1, .ref (tq 0)), (2, .ref (uq 0)), (3, .int (nI i))]) {z : Fo} {ev : Ev} {li : Li} {te : Te} {pa : Pa} {im : Im} {mo : Mo} {H : Heap} {locs : List Loc} (hRel : Rel z ev li te pa im mo) (hP : va_P (xD E) vwCl (wW E tq f q g h pq rq bq z ev li te pa im ++ wM E uq mo) H) (hD : va_D (fun q : Nat => s.heap.size ≤ q) (wW E tq f q g h pq rq bq z ev li te pa im ++ wM E uq mo)) (hS : va_S (fun q : Nat => s.heap.size ≤ q) s.heap H locs) (kx : (∀ (z' : Fo) (ev' : Ev) (li' : Li) (te' : Te) (pa' : Pa) (im' : Im) (mo' : Mo) (H : Heap) (locs : List Loc), Rel z' ev' li' te' pa' im' mo' → va_P (xD E) vwCl (wW E tq f q g h pq rq bq z' ev' li' te' pa' im' ++ wM E uq mo') H → va_D (fun q : Nat => s.heap.size ≤ q) (wW E tq f q g h pq rq bq z' ev' li' te' pa' im' ++ wM E uq mo') → va_S (fun q : Nat => s.heap.size ≤ q) s.heap H locs → W p l e room_1 s m #[Value.ref b] below meth c H locs 600000 7302250 (lw_Z below #[Value.ref b] s) (F0 m 775 ls []))) : W p l e room_1 s m #[Value.ref b] below meth c H locs 600000 7302250 (lw_Z below #[Value.ref b] s) (F0 m 245 ls []) := by
  obtain ⟨hx, hb, hr, hml, hown, hts, hX, hbl, hlocks, hgv⟩ := id C0
  have hts := fun w h => hts w (wsL_law_in w h)
  have hbA : ¬ (fun q : Nat => s.heap.size ≤ q) b := Nat.not_le.mpr hbl
  have S : CallFix p m c cL_law 4 s #[Value.ref b] wsL_law RL := ⟨hx, hb, hml, hown, hts⟩
  have hi1 : vp_in (nI i + 1) L := x_inS (k := 1) rfl hi hL (by decide)
  have hi2 : vp_in (nI i + 2) L := x_inS (k := 2) rfl hi hL (by decide)
  obtain ⟨r, z', ev', pa', mo', hf1, hf2, hRel⟩ := hsim z ev li te pa im mo (xs (nI i + 1).toNatClampNeg) (xs (nI i + 2).toNatClampNeg) hRel
  refine lv_aload_n hx hb dL_law_245 rfl (lv_at hl 1 rfl) ?_
  refine lv_aload_n hx hb dL_law_246 rfl (lv_at hl 0 rfl) ?_
  refine lv_iload_n hx hb dL_law_247 rfl (lv_at hl 3 rfl) ?_
  refine lv_iconst (v := 1) hx hb dL_law_248 (by decide) ?_
  refine lv_iadd hx hb dL_law_249 ?_
  refine va_sld hx hb hX hbl hbA hS hi1 dL_law_250 ?_
  refine lv_aload_n hx hb dL_law_251 rfl (lv_at hl 0 rfl) ?_
  refine lv_iload_n hx hb dL_law_252 rfl (lv_at hl 3 rfl) ?_
  refine lv_iconst (v := 2) hx hb dL_law_253 (by decide) ?_
  refine lv_iadd hx hb dL_law_254 ?_
  refine va_sld hx hb hX hbl hbA hS hi2 dL_law_255 ?_
  refine x_mC (pre := []) (post := wM E uq mo) (As := [.int (xs (nI i + 1).toNatClampNeg), .int (xs (nI i + 2).toNatClampNeg)]) (rest := []) S hK (kX5_bound l E tq f q g h pq rq bq z ev li te pa im (xs (nI i + 1).toNatClampNeg) (xs (nI i + 2).toNatClampNeg) hf1) (cwV 2 hts gL_law_X5_bound rfl rfl rfl (by decide +kernel) ⟨Nat.le_of_ble_eq_true rfl, Nat.le_of_ble_eq_true rfl⟩) hP hD hS rfl 0 rfl rfl rfl rfl hl.1 (Nat.le_of_ble_eq_true rfl) dL_law_256 rfl ⟨Nat.le_refl _, Nat.le_refl _⟩ (fun H locs hP hD hS => ?_)
  have hP : va_P (xD E) vwCl (wW E tq f q g h pq rq bq z' ev' li te pa' im ++ wM E uq mo) H := hP
  have hD : va_D (fun q : Nat => s.heap.size ≤ q) (wW E tq f q g h pq rq bq z' ev' li te pa' im ++ wM E uq mo) := hD
  refine lv_aload_n hx hb dL_law_259 rfl (lv_at hl 2 rfl) ?_
  refine lv_aload_n hx hb dL_law_260 rfl (lv_at hl 0 rfl) ?_
  refine lv_iload_n hx hb dL_law_261 rfl (lv_at hl 3 rfl) ?_
  refine lv_iconst (v := 1) hx hb dL_law_262 (by decide) ?_
  refine lv_iadd hx hb dL_law_263 ?_
  refine va_sld hx hb hX hbl hbA hS hi1 dL_law_264 ?_
  refine lv_aload_n hx hb dL_law_265 rfl (lv_at hl 0 rfl) ?_
  refine lv_iload_n hx hb dL_law_266 rfl (lv_at hl 3 rfl) ?_
  refine lv_iconst (v := 2) hx hb dL_law_267 (by decide) ?_
  refine lv_iadd hx hb dL_law_268 ?_
  refine va_sld hx hb hX hbl hbA hS hi2 dL_law_269 ?_
  have hP : va_P (xD E) vwCl (wW E tq f q g h pq rq bq z' ev' li te pa' im ++ (wM E uq mo ++ [])) H := by rw [List.append_nil]; exact hP
  have hD : va_D (fun q : Nat => s.heap.size ≤ q) (wW E tq f q g h pq rq bq z' ev' li te pa' im ++ (wM E uq mo ++ [])) := by rw [List.append_nil]; exact hD
  refine x_mC (pre := wW E tq f q g h pq rq bq z' ev' li te pa' im) (post := []) (As := [.int (xs (nI i + 1).toNatClampNeg), .int (xs (nI i + 2).toNatClampNeg)]) (rest := [.int r]) S hK (kX6_bound l E uq mo (xs (nI i + 1).toNatClampNeg) (xs (nI i + 2).toNatClampNeg) hf2) (cwV 2 hts gL_law_X6_bound rfl rfl rfl (by decide +kernel) ⟨Nat.le_of_ble_eq_true rfl, Nat.le_of_ble_eq_true rfl⟩) hP hD hS rfl 0 rfl rfl rfl rfl hl.1 (Nat.le_of_ble_eq_true rfl) dL_law_270 rfl ⟨Nat.le_refl _, Nat.le_refl _⟩ (fun H locs hP hD hS => ?_)
  have hP : va_P (xD E) vwCl (wW E tq f q g h pq rq bq z' ev' li te pa' im ++ (wM E uq mo' ++ [])) H := hP
  have hD : va_D (fun q : Nat => s.heap.size ≤ q) (wW E tq f q g h pq rq bq z' ev' li te pa' im ++ (wM E uq mo' ++ [])) := hD
  rw [List.append_nil] at hP hD
  refine lv_icmp_eq (tgt := 775) hx hb dL_law_273 (by decide) (fun _ => ?_) (fun cn => absurd rfl cn)
  exact kx z' ev' li te pa' im mo' _ _ hRel hP hD hS
set_option maxHeartbeats 4000000 in
set_option maxRecDepth 100000 in
theorem law_case_weight {p : Program} {l : Launch} {e : Env} {s : State} {m : MethodId} {below : List Frame} {meth : Method} {c : Code} {b L : Nat} {xs : Nat → Int32} (hL : L ≤ 2560) (C0 : lw_At p s m meth c b L xs) {E : xG} (hK : xK E s) {tq : Nat → Nat} {f : Nat → Nat} {q : Nat → Nat} {g : Nat → Nat} {h : Nat → Nat} {pq : Nat → Nat} {rq : Nat → Nat → Nat} {bq : Nat → Nat → Nat} {uq : Nat → Nat} (Rel : Fo → Ev → Li → Te → Pa → Im → Mo → Prop) (hsim : Sim_weight Rel) {i : Nat} (hi : i + 5 ≤ L) {ls : Array Slot} (hl : lv_has ls 4 [(0, .ref b), (1, .ref (tq 0)), (2, .ref (uq 0)), (3, .int (nI i))]) {z : Fo} {ev : Ev} {li : Li} {te : Te} {pa : Pa} {im : Im} {mo : Mo} {H : Heap} {locs : List Loc} (hRel : Rel z ev li te pa im mo) (hP : va_P (xD E) vwCl (wW E tq f q g h pq rq bq z ev li te pa im ++ wM E uq mo) H) (hD : va_D (fun q : Nat => s.heap.size ≤ q) (wW E tq f q g h pq rq bq z ev li te pa im ++ wM E uq mo)) (hS : va_S (fun q : Nat => s.heap.size ≤ q) s.heap H locs) (kx : (∀ (z' : Fo) (ev' : Ev) (li' : Li) (te' : Te) (pa' : Pa) (im' : Im) (mo' : Mo) (H : Heap) (locs : List Loc), Rel z' ev' li' te' pa' im' mo' → va_P (xD E) vwCl (wW E tq f q g h pq rq bq z' ev' li' te' pa' im' ++ wM E uq mo') H → va_D (fun q : Nat => s.heap.size ≤ q) (wW E tq f q g h pq rq bq z' ev' li' te' pa' im' ++ wM E uq mo') → va_S (fun q : Nat => s.heap.size ≤ q) s.heap H locs → W p l e room_1 s m #[Value.ref b] below meth c H locs 600000 7302250 (lw_Z below #[Value.ref b] s) (F0 m 775 ls []))) : W p l e room_1 s m #[Value.ref b] below meth c H locs 600000 7302250 (lw_Z below #[Value.ref b] s) (F0 m 278 ls []) := by
  obtain ⟨hx, hb, hr, hml, hown, hts, hX, hbl, hlocks, hgv⟩ := id C0
  have hts := fun w h => hts w (wsL_law_in w h)
  have hbA : ¬ (fun q : Nat => s.heap.size ≤ q) b := Nat.not_le.mpr hbl
  have S : CallFix p m c cL_law 4 s #[Value.ref b] wsL_law RL := ⟨hx, hb, hml, hown, hts⟩
  have hi1 : vp_in (nI i + 1) L := x_inS (k := 1) rfl hi hL (by decide)
  have hi2 : vp_in (nI i + 2) L := x_inS (k := 2) rfl hi hL (by decide)
  have hi3 : vp_in (nI i + 3) L := x_inS (k := 3) rfl hi hL (by decide)
  obtain ⟨r, z', ev', pa', mo', hf1, hf2, hRel⟩ := hsim z ev li te pa im mo (xs (nI i + 1).toNatClampNeg) (xs (nI i + 2).toNatClampNeg) (xs (nI i + 3).toNatClampNeg) hRel
  refine lv_aload_n hx hb dL_law_278 rfl (lv_at hl 1 rfl) ?_
  refine lv_aload_n hx hb dL_law_279 rfl (lv_at hl 0 rfl) ?_
  refine lv_iload_n hx hb dL_law_280 rfl (lv_at hl 3 rfl) ?_
  refine lv_iconst (v := 1) hx hb dL_law_281 (by decide) ?_
  refine lv_iadd hx hb dL_law_282 ?_
  refine va_sld hx hb hX hbl hbA hS hi1 dL_law_283 ?_
  refine lv_aload_n hx hb dL_law_284 rfl (lv_at hl 0 rfl) ?_
  refine lv_iload_n hx hb dL_law_285 rfl (lv_at hl 3 rfl) ?_
  refine lv_iconst (v := 2) hx hb dL_law_286 (by decide) ?_
  refine lv_iadd hx hb dL_law_287 ?_
  refine va_sld hx hb hX hbl hbA hS hi2 dL_law_288 ?_
  refine lv_aload_n hx hb dL_law_289 rfl (lv_at hl 0 rfl) ?_
  refine lv_iload_n hx hb dL_law_290 rfl (lv_at hl 3 rfl) ?_
  refine lv_iconst (v := 3) hx hb dL_law_291 (by decide) ?_
  refine lv_iadd hx hb dL_law_292 ?_
  refine va_sld hx hb hX hbl hbA hS hi3 dL_law_293 ?_
  refine x_mC (pre := []) (post := wM E uq mo) (As := [.int (xs (nI i + 1).toNatClampNeg), .int (xs (nI i + 2).toNatClampNeg), .int (xs (nI i + 3).toNatClampNeg)]) (rest := []) S hK (kX5_weight l E tq f q g h pq rq bq z ev li te pa im (xs (nI i + 1).toNatClampNeg) (xs (nI i + 2).toNatClampNeg) (xs (nI i + 3).toNatClampNeg) hf1) (cwV 3 hts gL_law_X5_weight rfl rfl rfl (by decide +kernel) ⟨Nat.le_of_ble_eq_true rfl, Nat.le_of_ble_eq_true rfl⟩) hP hD hS rfl 0 rfl rfl rfl rfl hl.1 (Nat.le_of_ble_eq_true rfl) dL_law_294 rfl ⟨Nat.le_refl _, Nat.le_refl _⟩ (fun H locs hP hD hS => ?_)
  have hP : va_P (xD E) vwCl (wW E tq f q g h pq rq bq z' ev' li te pa' im ++ wM E uq mo) H := hP
  have hD : va_D (fun q : Nat => s.heap.size ≤ q) (wW E tq f q g h pq rq bq z' ev' li te pa' im ++ wM E uq mo) := hD
  refine lv_aload_n hx hb dL_law_297 rfl (lv_at hl 2 rfl) ?_
  refine lv_aload_n hx hb dL_law_298 rfl (lv_at hl 0 rfl) ?_
  refine lv_iload_n hx hb dL_law_299 rfl (lv_at hl 3 rfl) ?_
  refine lv_iconst (v := 1) hx hb dL_law_300 (by decide) ?_
  refine lv_iadd hx hb dL_law_301 ?_
  refine va_sld hx hb hX hbl hbA hS hi1 dL_law_302 ?_
  refine lv_aload_n hx hb dL_law_303 rfl (lv_at hl 0 rfl) ?_
  refine lv_iload_n hx hb dL_law_304 rfl (lv_at hl 3 rfl) ?_
  refine lv_iconst (v := 2) hx hb dL_law_305 (by decide) ?_
  refine lv_iadd hx hb dL_law_306 ?_
  refine va_sld hx hb hX hbl hbA hS hi2 dL_law_307 ?_
  refine lv_aload_n hx hb dL_law_308 rfl (lv_at hl 0 rfl) ?_
  refine lv_iload_n hx hb dL_law_309 rfl (lv_at hl 3 rfl) ?_
  refine lv_iconst (v := 3) hx hb dL_law_310 (by decide) ?_
  refine lv_iadd hx hb dL_law_311 ?_
  refine va_sld hx hb hX hbl hbA hS hi3 dL_law_312 ?_
  have hP : va_P (xD E) vwCl (wW E tq f q g h pq rq bq z' ev' li te pa' im ++ (wM E uq mo ++ [])) H := by rw [List.append_nil]; exact hP
  have hD : va_D (fun q : Nat => s.heap.size ≤ q) (wW E tq f q g h pq rq bq z' ev' li te pa' im ++ (wM E uq mo ++ [])) := by rw [List.append_nil]; exact hD
  refine x_mC (pre := wW E tq f q g h pq rq bq z' ev' li te pa' im) (post := []) (As := [.int (xs (nI i + 1).toNatClampNeg), .int (xs (nI i + 2).toNatClampNeg), .int (xs (nI i + 3).toNatClampNeg)]) (rest := [.int r]) S hK (kX6_weight l E uq mo (xs (nI i + 1).toNatClampNeg) (xs (nI i + 2).toNatClampNeg) (xs (nI i + 3).toNatClampNeg) hf2) (cwV 3 hts gL_law_X6_weight rfl rfl rfl (by decide +kernel) ⟨Nat.le_of_ble_eq_true rfl, Nat.le_of_ble_eq_true rfl⟩) hP hD hS rfl 0 rfl rfl rfl rfl hl.1 (Nat.le_of_ble_eq_true rfl) dL_law_313 rfl ⟨Nat.le_refl _, Nat.le_refl _⟩ (fun H locs hP hD hS => ?_)
  have hP : va_P (xD E) vwCl (wW E tq f q g h pq rq bq z' ev' li te pa' im ++ (wM E uq mo' ++ [])) H := hP
  have hD : va_D (fun q : Nat => s.heap.size ≤ q) (wW E tq f q g h pq rq bq z' ev' li te pa' im ++ (wM E uq mo' ++ [])) := hD
  rw [List.append_nil] at hP hD
  refine lv_icmp_eq (tgt := 775) hx hb dL_law_316 (by decide) (fun _ => ?_) (fun cn => absurd rfl cn)
  exact kx z' ev' li te pa' im mo' _ _ hRel hP hD hS
set_option maxHeartbeats 4000000 in
set_option maxRecDepth 100000 in
theorem law_case_mirror {p : Program} {l : Launch} {e : Env} {s : State} {m : MethodId} {below : List Frame} {meth : Method} {c : Code} {b L : Nat} {xs : Nat → Int32} (hL : L ≤ 2560) (C0 : lw_At p s m meth c b L xs) {E : xG} (hK : xK E s) {tq : Nat → Nat} {f : Nat → Nat} {q : Nat → Nat} {g : Nat → Nat} {h : Nat → Nat} {pq : Nat → Nat} {rq : Nat → Nat → Nat} {bq : Nat → Nat → Nat} {uq : Nat → Nat} (Rel : Fo → Ev → Li → Te → Pa → Im → Mo → Prop) (hsim : Sim_mirror Rel) {i : Nat} (hi : i + 5 ≤ L) {ls : Array Slot} (hl : lv_has ls 4 [(0, .ref b), (1, .ref (tq 0)), (2, .ref (uq 0)), (3, .int (nI i))]) {z : Fo} {ev : Ev} {li : Li} {te : Te} {pa : Pa} {im : Im} {mo : Mo} {H : Heap} {locs : List Loc} (hRel : Rel z ev li te pa im mo) (hP : va_P (xD E) vwCl (wW E tq f q g h pq rq bq z ev li te pa im ++ wM E uq mo) H) (hD : va_D (fun q : Nat => s.heap.size ≤ q) (wW E tq f q g h pq rq bq z ev li te pa im ++ wM E uq mo)) (hS : va_S (fun q : Nat => s.heap.size ≤ q) s.heap H locs) (kx : (∀ (z' : Fo) (ev' : Ev) (li' : Li) (te' : Te) (pa' : Pa) (im' : Im) (mo' : Mo) (H : Heap) (locs : List Loc), Rel z' ev' li' te' pa' im' mo' → va_P (xD E) vwCl (wW E tq f q g h pq rq bq z' ev' li' te' pa' im' ++ wM E uq mo') H → va_D (fun q : Nat => s.heap.size ≤ q) (wW E tq f q g h pq rq bq z' ev' li' te' pa' im' ++ wM E uq mo') → va_S (fun q : Nat => s.heap.size ≤ q) s.heap H locs → W p l e room_1 s m #[Value.ref b] below meth c H locs 600000 7302250 (lw_Z below #[Value.ref b] s) (F0 m 775 ls []))) : W p l e room_1 s m #[Value.ref b] below meth c H locs 600000 7302250 (lw_Z below #[Value.ref b] s) (F0 m 321 ls []) := by
  obtain ⟨hx, hb, hr, hml, hown, hts, hX, hbl, hlocks, hgv⟩ := id C0
  have hts := fun w h => hts w (wsL_law_in w h)
  have hbA : ¬ (fun q : Nat => s.heap.size ≤ q) b := Nat.not_le.mpr hbl
  have S : CallFix p m c cL_law 4 s #[Value.ref b] wsL_law RL := ⟨hx, hb, hml, hown, hts⟩
  have hi1 : vp_in (nI i + 1) L := x_inS (k := 1) rfl hi hL (by decide)
  obtain ⟨r, z', ev', pa', mo', hf1, hf2, hRel⟩ := hsim z ev li te pa im mo (xs (nI i + 1).toNatClampNeg) hRel
  refine lv_aload_n hx hb dL_law_321 rfl (lv_at hl 1 rfl) ?_
  refine lv_aload_n hx hb dL_law_322 rfl (lv_at hl 0 rfl) ?_
  refine lv_iload_n hx hb dL_law_323 rfl (lv_at hl 3 rfl) ?_
  refine lv_iconst (v := 1) hx hb dL_law_324 (by decide) ?_
  refine lv_iadd hx hb dL_law_325 ?_
  refine va_sld hx hb hX hbl hbA hS hi1 dL_law_326 ?_
  refine x_mC (pre := []) (post := wM E uq mo) (As := [.int (xs (nI i + 1).toNatClampNeg)]) (rest := []) S hK (kX5_mirror l E tq f q g h pq rq bq z ev li te pa im (xs (nI i + 1).toNatClampNeg) hf1) (cwV 1 hts gL_law_X5_mirror rfl rfl rfl (by decide +kernel) ⟨Nat.le_of_ble_eq_true rfl, Nat.le_of_ble_eq_true rfl⟩) hP hD hS rfl 0 rfl rfl rfl rfl hl.1 (Nat.le_of_ble_eq_true rfl) dL_law_327 rfl ⟨Nat.le_refl _, Nat.le_refl _⟩ (fun H locs hP hD hS => ?_)
  have hP : va_P (xD E) vwCl (wW E tq f q g h pq rq bq z' ev' li te pa' im ++ wM E uq mo) H := hP
  have hD : va_D (fun q : Nat => s.heap.size ≤ q) (wW E tq f q g h pq rq bq z' ev' li te pa' im ++ wM E uq mo) := hD
  refine lv_aload_n hx hb dL_law_330 rfl (lv_at hl 2 rfl) ?_
  refine lv_aload_n hx hb dL_law_331 rfl (lv_at hl 0 rfl) ?_
  refine lv_iload_n hx hb dL_law_332 rfl (lv_at hl 3 rfl) ?_
  refine lv_iconst (v := 1) hx hb dL_law_333 (by decide) ?_
  refine lv_iadd hx hb dL_law_334 ?_
  refine va_sld hx hb hX hbl hbA hS hi1 dL_law_335 ?_
  have hP : va_P (xD E) vwCl (wW E tq f q g h pq rq bq z' ev' li te pa' im ++ (wM E uq mo ++ [])) H := by rw [List.append_nil]; exact hP
  have hD : va_D (fun q : Nat => s.heap.size ≤ q) (wW E tq f q g h pq rq bq z' ev' li te pa' im ++ (wM E uq mo ++ [])) := by rw [List.append_nil]; exact hD
  refine x_mC (pre := wW E tq f q g h pq rq bq z' ev' li te pa' im) (post := []) (As := [.int (xs (nI i + 1).toNatClampNeg)]) (rest := [.int r]) S hK (kX6_mirror l E uq mo (xs (nI i + 1).toNatClampNeg) hf2) (cwV 1 hts gL_law_X6_mirror rfl rfl rfl (by decide +kernel) ⟨Nat.le_of_ble_eq_true rfl, Nat.le_of_ble_eq_true rfl⟩) hP hD hS rfl 0 rfl rfl rfl rfl hl.1 (Nat.le_of_ble_eq_true rfl) dL_law_336 rfl ⟨Nat.le_refl _, Nat.le_refl _⟩ (fun H locs hP hD hS => ?_)
  have hP : va_P (xD E) vwCl (wW E tq f q g h pq rq bq z' ev' li te pa' im ++ (wM E uq mo' ++ [])) H := hP
  have hD : va_D (fun q : Nat => s.heap.size ≤ q) (wW E tq f q g h pq rq bq z' ev' li te pa' im ++ (wM E uq mo' ++ [])) := hD
  rw [List.append_nil] at hP hD
  refine lv_icmp_eq (tgt := 775) hx hb dL_law_339 (by decide) (fun _ => ?_) (fun cn => absurd rfl cn)
  exact kx z' ev' li te pa' im mo' _ _ hRel hP hD hS
set_option maxHeartbeats 4000000 in
set_option maxRecDepth 100000 in
theorem law_case_turn {p : Program} {l : Launch} {e : Env} {s : State} {m : MethodId} {below : List Frame} {meth : Method} {c : Code} {b L : Nat} {xs : Nat → Int32} (hL : L ≤ 2560) (C0 : lw_At p s m meth c b L xs) {E : xG} (hK : xK E s) {tq : Nat → Nat} {f : Nat → Nat} {q : Nat → Nat} {g : Nat → Nat} {h : Nat → Nat} {pq : Nat → Nat} {rq : Nat → Nat → Nat} {bq : Nat → Nat → Nat} {uq : Nat → Nat} (Rel : Fo → Ev → Li → Te → Pa → Im → Mo → Prop) (hsim : Sim_turn Rel) {i : Nat} (hi : i + 5 ≤ L) {ls : Array Slot} (hl : lv_has ls 4 [(0, .ref b), (1, .ref (tq 0)), (2, .ref (uq 0)), (3, .int (nI i))]) {z : Fo} {ev : Ev} {li : Li} {te : Te} {pa : Pa} {im : Im} {mo : Mo} {H : Heap} {locs : List Loc} (hRel : Rel z ev li te pa im mo) (hP : va_P (xD E) vwCl (wW E tq f q g h pq rq bq z ev li te pa im ++ wM E uq mo) H) (hD : va_D (fun q : Nat => s.heap.size ≤ q) (wW E tq f q g h pq rq bq z ev li te pa im ++ wM E uq mo)) (hS : va_S (fun q : Nat => s.heap.size ≤ q) s.heap H locs) (kx : (∀ (z' : Fo) (ev' : Ev) (li' : Li) (te' : Te) (pa' : Pa) (im' : Im) (mo' : Mo) (H : Heap) (locs : List Loc), Rel z' ev' li' te' pa' im' mo' → va_P (xD E) vwCl (wW E tq f q g h pq rq bq z' ev' li' te' pa' im' ++ wM E uq mo') H → va_D (fun q : Nat => s.heap.size ≤ q) (wW E tq f q g h pq rq bq z' ev' li' te' pa' im' ++ wM E uq mo') → va_S (fun q : Nat => s.heap.size ≤ q) s.heap H locs → W p l e room_1 s m #[Value.ref b] below meth c H locs 600000 7302250 (lw_Z below #[Value.ref b] s) (F0 m 775 ls []))) : W p l e room_1 s m #[Value.ref b] below meth c H locs 600000 7302250 (lw_Z below #[Value.ref b] s) (F0 m 344 ls []) := by
  obtain ⟨hx, hb, hr, hml, hown, hts, hX, hbl, hlocks, hgv⟩ := id C0
  have hts := fun w h => hts w (wsL_law_in w h)
  have hbA : ¬ (fun q : Nat => s.heap.size ≤ q) b := Nat.not_le.mpr hbl
  have S : CallFix p m c cL_law 4 s #[Value.ref b] wsL_law RL := ⟨hx, hb, hml, hown, hts⟩
  obtain ⟨r, z', ev', pa', mo', hf1, hf2, hRel⟩ := hsim z ev li te pa im mo  hRel
  refine lv_aload_n hx hb dL_law_344 rfl (lv_at hl 1 rfl) ?_
  refine x_mC (pre := []) (post := wM E uq mo) (As := []) (rest := []) S hK (kX5_turn l E tq f q g h pq rq bq z ev li te pa im hf1) (cwV 0 hts gL_law_X5_turn rfl rfl rfl (by decide +kernel) ⟨Nat.le_of_ble_eq_true rfl, Nat.le_of_ble_eq_true rfl⟩) hP hD hS rfl 0 rfl rfl rfl rfl hl.1 (Nat.le_of_ble_eq_true rfl) dL_law_345 rfl ⟨Nat.le_refl _, Nat.le_refl _⟩ (fun H locs hP hD hS => ?_)
  have hP : va_P (xD E) vwCl (wW E tq f q g h pq rq bq z' ev' li te pa' im ++ wM E uq mo) H := hP
  have hD : va_D (fun q : Nat => s.heap.size ≤ q) (wW E tq f q g h pq rq bq z' ev' li te pa' im ++ wM E uq mo) := hD
  refine lv_aload_n hx hb dL_law_348 rfl (lv_at hl 2 rfl) ?_
  have hP : va_P (xD E) vwCl (wW E tq f q g h pq rq bq z' ev' li te pa' im ++ (wM E uq mo ++ [])) H := by rw [List.append_nil]; exact hP
  have hD : va_D (fun q : Nat => s.heap.size ≤ q) (wW E tq f q g h pq rq bq z' ev' li te pa' im ++ (wM E uq mo ++ [])) := by rw [List.append_nil]; exact hD
  refine x_mC (pre := wW E tq f q g h pq rq bq z' ev' li te pa' im) (post := []) (As := []) (rest := [.int r]) S hK (kX6_turn l E uq mo hf2) (cwV 0 hts gL_law_X6_turn rfl rfl rfl (by decide +kernel) ⟨Nat.le_of_ble_eq_true rfl, Nat.le_of_ble_eq_true rfl⟩) hP hD hS rfl 0 rfl rfl rfl rfl hl.1 (Nat.le_of_ble_eq_true rfl) dL_law_349 rfl ⟨Nat.le_refl _, Nat.le_refl _⟩ (fun H locs hP hD hS => ?_)
  have hP : va_P (xD E) vwCl (wW E tq f q g h pq rq bq z' ev' li te pa' im ++ (wM E uq mo' ++ [])) H := hP
  have hD : va_D (fun q : Nat => s.heap.size ≤ q) (wW E tq f q g h pq rq bq z' ev' li te pa' im ++ (wM E uq mo' ++ [])) := hD
  rw [List.append_nil] at hP hD
  refine lv_icmp_eq (tgt := 775) hx hb dL_law_352 (by decide) (fun _ => ?_) (fun cn => absurd rfl cn)
  exact kx z' ev' li te pa' im mo' _ _ hRel hP hD hS
set_option maxHeartbeats 4000000 in
set_option maxRecDepth 100000 in
theorem law_case_copy {p : Program} {l : Launch} {e : Env} {s : State} {m : MethodId} {below : List Frame} {meth : Method} {c : Code} {b L : Nat} {xs : Nat → Int32} (hL : L ≤ 2560) (C0 : lw_At p s m meth c b L xs) {E : xG} (hK : xK E s) {tq : Nat → Nat} {f : Nat → Nat} {q : Nat → Nat} {g : Nat → Nat} {h : Nat → Nat} {pq : Nat → Nat} {rq : Nat → Nat → Nat} {bq : Nat → Nat → Nat} {uq : Nat → Nat} (Rel : Fo → Ev → Li → Te → Pa → Im → Mo → Prop) (hsim : Sim_copy Rel) {i : Nat} (hi : i + 5 ≤ L) {ls : Array Slot} (hl : lv_has ls 4 [(0, .ref b), (1, .ref (tq 0)), (2, .ref (uq 0)), (3, .int (nI i))]) {z : Fo} {ev : Ev} {li : Li} {te : Te} {pa : Pa} {im : Im} {mo : Mo} {H : Heap} {locs : List Loc} (hRel : Rel z ev li te pa im mo) (hP : va_P (xD E) vwCl (wW E tq f q g h pq rq bq z ev li te pa im ++ wM E uq mo) H) (hD : va_D (fun q : Nat => s.heap.size ≤ q) (wW E tq f q g h pq rq bq z ev li te pa im ++ wM E uq mo)) (hS : va_S (fun q : Nat => s.heap.size ≤ q) s.heap H locs) (kx : (∀ (z' : Fo) (ev' : Ev) (li' : Li) (te' : Te) (pa' : Pa) (im' : Im) (mo' : Mo) (H : Heap) (locs : List Loc), Rel z' ev' li' te' pa' im' mo' → va_P (xD E) vwCl (wW E tq f q g h pq rq bq z' ev' li' te' pa' im' ++ wM E uq mo') H → va_D (fun q : Nat => s.heap.size ≤ q) (wW E tq f q g h pq rq bq z' ev' li' te' pa' im' ++ wM E uq mo') → va_S (fun q : Nat => s.heap.size ≤ q) s.heap H locs → W p l e room_1 s m #[Value.ref b] below meth c H locs 600000 7302250 (lw_Z below #[Value.ref b] s) (F0 m 775 ls []))) : W p l e room_1 s m #[Value.ref b] below meth c H locs 600000 7302250 (lw_Z below #[Value.ref b] s) (F0 m 357 ls []) := by
  obtain ⟨hx, hb, hr, hml, hown, hts, hX, hbl, hlocks, hgv⟩ := id C0
  have hts := fun w h => hts w (wsL_law_in w h)
  have hbA : ¬ (fun q : Nat => s.heap.size ≤ q) b := Nat.not_le.mpr hbl
  have S : CallFix p m c cL_law 4 s #[Value.ref b] wsL_law RL := ⟨hx, hb, hml, hown, hts⟩
  have hi1 : vp_in (nI i + 1) L := x_inS (k := 1) rfl hi hL (by decide)
  have hi2 : vp_in (nI i + 2) L := x_inS (k := 2) rfl hi hL (by decide)
  obtain ⟨r, z', ev', pa', mo', hf1, hf2, hRel⟩ := hsim z ev li te pa im mo (xs (nI i + 1).toNatClampNeg) (xs (nI i + 2).toNatClampNeg) hRel
  refine lv_aload_n hx hb dL_law_357 rfl (lv_at hl 1 rfl) ?_
  refine lv_aload_n hx hb dL_law_358 rfl (lv_at hl 0 rfl) ?_
  refine lv_iload_n hx hb dL_law_359 rfl (lv_at hl 3 rfl) ?_
  refine lv_iconst (v := 1) hx hb dL_law_360 (by decide) ?_
  refine lv_iadd hx hb dL_law_361 ?_
  refine va_sld hx hb hX hbl hbA hS hi1 dL_law_362 ?_
  refine lv_aload_n hx hb dL_law_363 rfl (lv_at hl 0 rfl) ?_
  refine lv_iload_n hx hb dL_law_364 rfl (lv_at hl 3 rfl) ?_
  refine lv_iconst (v := 2) hx hb dL_law_365 (by decide) ?_
  refine lv_iadd hx hb dL_law_366 ?_
  refine va_sld hx hb hX hbl hbA hS hi2 dL_law_367 ?_
  refine x_mC (pre := []) (post := wM E uq mo) (As := [.int (xs (nI i + 1).toNatClampNeg), .int (xs (nI i + 2).toNatClampNeg)]) (rest := []) S hK (kX5_copy l E tq f q g h pq rq bq z ev li te pa im (xs (nI i + 1).toNatClampNeg) (xs (nI i + 2).toNatClampNeg) hf1) (cwV 2 hts gL_law_X5_copy rfl rfl rfl (by decide +kernel) ⟨Nat.le_of_ble_eq_true rfl, Nat.le_of_ble_eq_true rfl⟩) hP hD hS rfl 0 rfl rfl rfl rfl hl.1 (Nat.le_of_ble_eq_true rfl) dL_law_368 rfl ⟨Nat.le_refl _, Nat.le_refl _⟩ (fun H locs hP hD hS => ?_)
  have hP : va_P (xD E) vwCl (wW E tq f q g h pq rq bq z' ev' li te pa' im ++ wM E uq mo) H := hP
  have hD : va_D (fun q : Nat => s.heap.size ≤ q) (wW E tq f q g h pq rq bq z' ev' li te pa' im ++ wM E uq mo) := hD
  refine lv_aload_n hx hb dL_law_371 rfl (lv_at hl 2 rfl) ?_
  refine lv_aload_n hx hb dL_law_372 rfl (lv_at hl 0 rfl) ?_
  refine lv_iload_n hx hb dL_law_373 rfl (lv_at hl 3 rfl) ?_
  refine lv_iconst (v := 1) hx hb dL_law_374 (by decide) ?_
  refine lv_iadd hx hb dL_law_375 ?_
  refine va_sld hx hb hX hbl hbA hS hi1 dL_law_376 ?_
  refine lv_aload_n hx hb dL_law_377 rfl (lv_at hl 0 rfl) ?_
  refine lv_iload_n hx hb dL_law_378 rfl (lv_at hl 3 rfl) ?_
  refine lv_iconst (v := 2) hx hb dL_law_379 (by decide) ?_
  refine lv_iadd hx hb dL_law_380 ?_
  refine va_sld hx hb hX hbl hbA hS hi2 dL_law_381 ?_
  have hP : va_P (xD E) vwCl (wW E tq f q g h pq rq bq z' ev' li te pa' im ++ (wM E uq mo ++ [])) H := by rw [List.append_nil]; exact hP
  have hD : va_D (fun q : Nat => s.heap.size ≤ q) (wW E tq f q g h pq rq bq z' ev' li te pa' im ++ (wM E uq mo ++ [])) := by rw [List.append_nil]; exact hD
  refine x_mC (pre := wW E tq f q g h pq rq bq z' ev' li te pa' im) (post := []) (As := [.int (xs (nI i + 1).toNatClampNeg), .int (xs (nI i + 2).toNatClampNeg)]) (rest := [.int r]) S hK (kX6_copy l E uq mo (xs (nI i + 1).toNatClampNeg) (xs (nI i + 2).toNatClampNeg) hf2) (cwV 2 hts gL_law_X6_copy rfl rfl rfl (by decide +kernel) ⟨Nat.le_of_ble_eq_true rfl, Nat.le_of_ble_eq_true rfl⟩) hP hD hS rfl 0 rfl rfl rfl rfl hl.1 (Nat.le_of_ble_eq_true rfl) dL_law_382 rfl ⟨Nat.le_refl _, Nat.le_refl _⟩ (fun H locs hP hD hS => ?_)
  have hP : va_P (xD E) vwCl (wW E tq f q g h pq rq bq z' ev' li te pa' im ++ (wM E uq mo' ++ [])) H := hP
  have hD : va_D (fun q : Nat => s.heap.size ≤ q) (wW E tq f q g h pq rq bq z' ev' li te pa' im ++ (wM E uq mo' ++ [])) := hD
  rw [List.append_nil] at hP hD
  refine lv_icmp_eq (tgt := 775) hx hb dL_law_385 (by decide) (fun _ => ?_) (fun cn => absurd rfl cn)
  exact kx z' ev' li te pa' im mo' _ _ hRel hP hD hS
set_option maxHeartbeats 4000000 in
set_option maxRecDepth 100000 in
theorem law_case_drift {p : Program} {l : Launch} {e : Env} {s : State} {m : MethodId} {below : List Frame} {meth : Method} {c : Code} {b L : Nat} {xs : Nat → Int32} (hL : L ≤ 2560) (C0 : lw_At p s m meth c b L xs) {E : xG} (hK : xK E s) {tq : Nat → Nat} {f : Nat → Nat} {q : Nat → Nat} {g : Nat → Nat} {h : Nat → Nat} {pq : Nat → Nat} {rq : Nat → Nat → Nat} {bq : Nat → Nat → Nat} {uq : Nat → Nat} (Rel : Fo → Ev → Li → Te → Pa → Im → Mo → Prop) (hsim : Sim_drift Rel) {i : Nat} (hi : i + 5 ≤ L) {ls : Array Slot} (hl : lv_has ls 4 [(0, .ref b), (1, .ref (tq 0)), (2, .ref (uq 0)), (3, .int (nI i))]) {z : Fo} {ev : Ev} {li : Li} {te : Te} {pa : Pa} {im : Im} {mo : Mo} {H : Heap} {locs : List Loc} (hRel : Rel z ev li te pa im mo) (hP : va_P (xD E) vwCl (wW E tq f q g h pq rq bq z ev li te pa im ++ wM E uq mo) H) (hD : va_D (fun q : Nat => s.heap.size ≤ q) (wW E tq f q g h pq rq bq z ev li te pa im ++ wM E uq mo)) (hS : va_S (fun q : Nat => s.heap.size ≤ q) s.heap H locs) (kx : (∀ (z' : Fo) (ev' : Ev) (li' : Li) (te' : Te) (pa' : Pa) (im' : Im) (mo' : Mo) (H : Heap) (locs : List Loc), Rel z' ev' li' te' pa' im' mo' → va_P (xD E) vwCl (wW E tq f q g h pq rq bq z' ev' li' te' pa' im' ++ wM E uq mo') H → va_D (fun q : Nat => s.heap.size ≤ q) (wW E tq f q g h pq rq bq z' ev' li' te' pa' im' ++ wM E uq mo') → va_S (fun q : Nat => s.heap.size ≤ q) s.heap H locs → W p l e room_1 s m #[Value.ref b] below meth c H locs 600000 7302250 (lw_Z below #[Value.ref b] s) (F0 m 775 ls []))) : W p l e room_1 s m #[Value.ref b] below meth c H locs 600000 7302250 (lw_Z below #[Value.ref b] s) (F0 m 390 ls []) := by
  obtain ⟨hx, hb, hr, hml, hown, hts, hX, hbl, hlocks, hgv⟩ := id C0
  have hts := fun w h => hts w (wsL_law_in w h)
  have hbA : ¬ (fun q : Nat => s.heap.size ≤ q) b := Nat.not_le.mpr hbl
  have S : CallFix p m c cL_law 4 s #[Value.ref b] wsL_law RL := ⟨hx, hb, hml, hown, hts⟩
  have hi1 : vp_in (nI i + 1) L := x_inS (k := 1) rfl hi hL (by decide)
  obtain ⟨r, z', ev', pa', mo', hf1, hf2, hRel⟩ := hsim z ev li te pa im mo (xs (nI i + 1).toNatClampNeg) hRel
  refine lv_aload_n hx hb dL_law_390 rfl (lv_at hl 1 rfl) ?_
  refine lv_aload_n hx hb dL_law_391 rfl (lv_at hl 0 rfl) ?_
  refine lv_iload_n hx hb dL_law_392 rfl (lv_at hl 3 rfl) ?_
  refine lv_iconst (v := 1) hx hb dL_law_393 (by decide) ?_
  refine lv_iadd hx hb dL_law_394 ?_
  refine va_sld hx hb hX hbl hbA hS hi1 dL_law_395 ?_
  refine x_mC (pre := []) (post := wM E uq mo) (As := [.int (xs (nI i + 1).toNatClampNeg)]) (rest := []) S hK (kX5_drift l E tq f q g h pq rq bq z ev li te pa im (xs (nI i + 1).toNatClampNeg) hf1) (cwV 1 hts gL_law_X5_drift rfl rfl rfl (by decide +kernel) ⟨Nat.le_of_ble_eq_true rfl, Nat.le_of_ble_eq_true rfl⟩) hP hD hS rfl 0 rfl rfl rfl rfl hl.1 (Nat.le_of_ble_eq_true rfl) dL_law_396 rfl ⟨Nat.le_refl _, Nat.le_refl _⟩ (fun H locs hP hD hS => ?_)
  have hP : va_P (xD E) vwCl (wW E tq f q g h pq rq bq z' ev' li te pa' im ++ wM E uq mo) H := hP
  have hD : va_D (fun q : Nat => s.heap.size ≤ q) (wW E tq f q g h pq rq bq z' ev' li te pa' im ++ wM E uq mo) := hD
  refine lv_aload_n hx hb dL_law_399 rfl (lv_at hl 2 rfl) ?_
  refine lv_aload_n hx hb dL_law_400 rfl (lv_at hl 0 rfl) ?_
  refine lv_iload_n hx hb dL_law_401 rfl (lv_at hl 3 rfl) ?_
  refine lv_iconst (v := 1) hx hb dL_law_402 (by decide) ?_
  refine lv_iadd hx hb dL_law_403 ?_
  refine va_sld hx hb hX hbl hbA hS hi1 dL_law_404 ?_
  have hP : va_P (xD E) vwCl (wW E tq f q g h pq rq bq z' ev' li te pa' im ++ (wM E uq mo ++ [])) H := by rw [List.append_nil]; exact hP
  have hD : va_D (fun q : Nat => s.heap.size ≤ q) (wW E tq f q g h pq rq bq z' ev' li te pa' im ++ (wM E uq mo ++ [])) := by rw [List.append_nil]; exact hD
  refine x_mC (pre := wW E tq f q g h pq rq bq z' ev' li te pa' im) (post := []) (As := [.int (xs (nI i + 1).toNatClampNeg)]) (rest := [.int r]) S hK (kX6_drift l E uq mo (xs (nI i + 1).toNatClampNeg) hf2) (cwV 1 hts gL_law_X6_drift rfl rfl rfl (by decide +kernel) ⟨Nat.le_of_ble_eq_true rfl, Nat.le_of_ble_eq_true rfl⟩) hP hD hS rfl 0 rfl rfl rfl rfl hl.1 (Nat.le_of_ble_eq_true rfl) dL_law_405 rfl ⟨Nat.le_refl _, Nat.le_refl _⟩ (fun H locs hP hD hS => ?_)
  have hP : va_P (xD E) vwCl (wW E tq f q g h pq rq bq z' ev' li te pa' im ++ (wM E uq mo' ++ [])) H := hP
  have hD : va_D (fun q : Nat => s.heap.size ≤ q) (wW E tq f q g h pq rq bq z' ev' li te pa' im ++ (wM E uq mo' ++ [])) := hD
  rw [List.append_nil] at hP hD
  refine lv_icmp_eq (tgt := 775) hx hb dL_law_408 (by decide) (fun _ => ?_) (fun cn => absurd rfl cn)
  exact kx z' ev' li te pa' im mo' _ _ hRel hP hD hS
set_option maxHeartbeats 4000000 in
set_option maxRecDepth 100000 in
theorem law_case_undo {p : Program} {l : Launch} {e : Env} {s : State} {m : MethodId} {below : List Frame} {meth : Method} {c : Code} {b L : Nat} {xs : Nat → Int32} (hL : L ≤ 2560) (C0 : lw_At p s m meth c b L xs) {E : xG} (hK : xK E s) {tq : Nat → Nat} {f : Nat → Nat} {q : Nat → Nat} {g : Nat → Nat} {h : Nat → Nat} {pq : Nat → Nat} {rq : Nat → Nat → Nat} {bq : Nat → Nat → Nat} {uq : Nat → Nat} (Rel : Fo → Ev → Li → Te → Pa → Im → Mo → Prop) (hsim : Sim_undo Rel) {i : Nat} (hi : i + 5 ≤ L) {ls : Array Slot} (hl : lv_has ls 4 [(0, .ref b), (1, .ref (tq 0)), (2, .ref (uq 0)), (3, .int (nI i))]) {z : Fo} {ev : Ev} {li : Li} {te : Te} {pa : Pa} {im : Im} {mo : Mo} {H : Heap} {locs : List Loc} (hRel : Rel z ev li te pa im mo) (hP : va_P (xD E) vwCl (wW E tq f q g h pq rq bq z ev li te pa im ++ wM E uq mo) H) (hD : va_D (fun q : Nat => s.heap.size ≤ q) (wW E tq f q g h pq rq bq z ev li te pa im ++ wM E uq mo)) (hS : va_S (fun q : Nat => s.heap.size ≤ q) s.heap H locs) (kx : (∀ (z' : Fo) (ev' : Ev) (li' : Li) (te' : Te) (pa' : Pa) (im' : Im) (mo' : Mo) (H : Heap) (locs : List Loc), Rel z' ev' li' te' pa' im' mo' → va_P (xD E) vwCl (wW E tq f q g h pq rq bq z' ev' li' te' pa' im' ++ wM E uq mo') H → va_D (fun q : Nat => s.heap.size ≤ q) (wW E tq f q g h pq rq bq z' ev' li' te' pa' im' ++ wM E uq mo') → va_S (fun q : Nat => s.heap.size ≤ q) s.heap H locs → W p l e room_1 s m #[Value.ref b] below meth c H locs 600000 7302250 (lw_Z below #[Value.ref b] s) (F0 m 775 ls []))) : W p l e room_1 s m #[Value.ref b] below meth c H locs 600000 7302250 (lw_Z below #[Value.ref b] s) (F0 m 413 ls []) := by
  obtain ⟨hx, hb, hr, hml, hown, hts, hX, hbl, hlocks, hgv⟩ := id C0
  have hts := fun w h => hts w (wsL_law_in w h)
  have hbA : ¬ (fun q : Nat => s.heap.size ≤ q) b := Nat.not_le.mpr hbl
  have S : CallFix p m c cL_law 4 s #[Value.ref b] wsL_law RL := ⟨hx, hb, hml, hown, hts⟩
  obtain ⟨r, z', ev', li', pa', mo', hf1, hf2, hRel⟩ := hsim z ev li te pa im mo  hRel
  refine lv_aload_n hx hb dL_law_413 rfl (lv_at hl 1 rfl) ?_
  refine x_mC (pre := []) (post := wM E uq mo) (As := []) (rest := []) S hK (kX5_undo l E tq f q g h pq rq bq z ev li te pa im hf1) (cwV 0 hts gL_law_X5_undo rfl rfl rfl (by decide +kernel) ⟨Nat.le_of_ble_eq_true rfl, Nat.le_of_ble_eq_true rfl⟩) hP hD hS rfl 0 rfl rfl rfl rfl hl.1 (Nat.le_of_ble_eq_true rfl) dL_law_414 rfl ⟨Nat.le_refl _, Nat.le_refl _⟩ (fun H locs hP hD hS => ?_)
  have hP : va_P (xD E) vwCl (wW E tq f q g h pq rq bq z' ev' li' te pa' im ++ wM E uq mo) H := hP
  have hD : va_D (fun q : Nat => s.heap.size ≤ q) (wW E tq f q g h pq rq bq z' ev' li' te pa' im ++ wM E uq mo) := hD
  refine lv_aload_n hx hb dL_law_417 rfl (lv_at hl 2 rfl) ?_
  have hP : va_P (xD E) vwCl (wW E tq f q g h pq rq bq z' ev' li' te pa' im ++ (wM E uq mo ++ [])) H := by rw [List.append_nil]; exact hP
  have hD : va_D (fun q : Nat => s.heap.size ≤ q) (wW E tq f q g h pq rq bq z' ev' li' te pa' im ++ (wM E uq mo ++ [])) := by rw [List.append_nil]; exact hD
  refine x_mC (pre := wW E tq f q g h pq rq bq z' ev' li' te pa' im) (post := []) (As := []) (rest := [.int r]) S hK (kX6_undo l E uq mo hf2) (cwV 0 hts gL_law_X6_undo rfl rfl rfl (by decide +kernel) ⟨Nat.le_of_ble_eq_true rfl, Nat.le_of_ble_eq_true rfl⟩) hP hD hS rfl 0 rfl rfl rfl rfl hl.1 (Nat.le_of_ble_eq_true rfl) dL_law_418 rfl ⟨Nat.le_refl _, Nat.le_refl _⟩ (fun H locs hP hD hS => ?_)
  have hP : va_P (xD E) vwCl (wW E tq f q g h pq rq bq z' ev' li' te pa' im ++ (wM E uq mo' ++ [])) H := hP
  have hD : va_D (fun q : Nat => s.heap.size ≤ q) (wW E tq f q g h pq rq bq z' ev' li' te pa' im ++ (wM E uq mo' ++ [])) := hD
  rw [List.append_nil] at hP hD
  refine lv_icmp_eq (tgt := 775) hx hb dL_law_421 (by decide) (fun _ => ?_) (fun cn => absurd rfl cn)
  exact kx z' ev' li' te pa' im mo' _ _ hRel hP hD hS
set_option maxHeartbeats 4000000 in
set_option maxRecDepth 100000 in
theorem law_case_told {p : Program} {l : Launch} {e : Env} {s : State} {m : MethodId} {below : List Frame} {meth : Method} {c : Code} {b L : Nat} {xs : Nat → Int32} (hL : L ≤ 2560) (C0 : lw_At p s m meth c b L xs) {E : xG} (hK : xK E s) {tq : Nat → Nat} {f : Nat → Nat} {q : Nat → Nat} {g : Nat → Nat} {h : Nat → Nat} {pq : Nat → Nat} {rq : Nat → Nat → Nat} {bq : Nat → Nat → Nat} {uq : Nat → Nat} (Rel : Fo → Ev → Li → Te → Pa → Im → Mo → Prop) (hsim : Sim_told Rel) {i : Nat} (hi : i + 5 ≤ L) {ls : Array Slot} (hl : lv_has ls 4 [(0, .ref b), (1, .ref (tq 0)), (2, .ref (uq 0)), (3, .int (nI i))]) {z : Fo} {ev : Ev} {li : Li} {te : Te} {pa : Pa} {im : Im} {mo : Mo} {H : Heap} {locs : List Loc} (hRel : Rel z ev li te pa im mo) (hP : va_P (xD E) vwCl (wW E tq f q g h pq rq bq z ev li te pa im ++ wM E uq mo) H) (hD : va_D (fun q : Nat => s.heap.size ≤ q) (wW E tq f q g h pq rq bq z ev li te pa im ++ wM E uq mo)) (hS : va_S (fun q : Nat => s.heap.size ≤ q) s.heap H locs) (kx : (∀ (z' : Fo) (ev' : Ev) (li' : Li) (te' : Te) (pa' : Pa) (im' : Im) (mo' : Mo) (H : Heap) (locs : List Loc), Rel z' ev' li' te' pa' im' mo' → va_P (xD E) vwCl (wW E tq f q g h pq rq bq z' ev' li' te' pa' im' ++ wM E uq mo') H → va_D (fun q : Nat => s.heap.size ≤ q) (wW E tq f q g h pq rq bq z' ev' li' te' pa' im' ++ wM E uq mo') → va_S (fun q : Nat => s.heap.size ≤ q) s.heap H locs → W p l e room_1 s m #[Value.ref b] below meth c H locs 600000 7302250 (lw_Z below #[Value.ref b] s) (F0 m 775 ls []))) : W p l e room_1 s m #[Value.ref b] below meth c H locs 600000 7302250 (lw_Z below #[Value.ref b] s) (F0 m 426 ls []) := by
  obtain ⟨hx, hb, hr, hml, hown, hts, hX, hbl, hlocks, hgv⟩ := id C0
  have hts := fun w h => hts w (wsL_law_in w h)
  have hbA : ¬ (fun q : Nat => s.heap.size ≤ q) b := Nat.not_le.mpr hbl
  have S : CallFix p m c cL_law 4 s #[Value.ref b] wsL_law RL := ⟨hx, hb, hml, hown, hts⟩
  have hi1 : vp_in (nI i + 1) L := x_inS (k := 1) rfl hi hL (by decide)
  obtain ⟨r, ev', te', mo', hf1, hf2, hRel⟩ := hsim z ev li te pa im mo (xs (nI i + 1).toNatClampNeg) hRel
  refine lv_aload_n hx hb dL_law_426 rfl (lv_at hl 1 rfl) ?_
  refine lv_aload_n hx hb dL_law_427 rfl (lv_at hl 0 rfl) ?_
  refine lv_iload_n hx hb dL_law_428 rfl (lv_at hl 3 rfl) ?_
  refine lv_iconst (v := 1) hx hb dL_law_429 (by decide) ?_
  refine lv_iadd hx hb dL_law_430 ?_
  refine va_sld hx hb hX hbl hbA hS hi1 dL_law_431 ?_
  refine x_mC (pre := []) (post := wM E uq mo) (As := [.int (xs (nI i + 1).toNatClampNeg)]) (rest := []) S hK (kX5_told l E tq f q g h pq rq bq z ev li te pa im (xs (nI i + 1).toNatClampNeg) hf1) (cwV 1 hts gL_law_X5_told rfl rfl rfl (by decide +kernel) ⟨Nat.le_of_ble_eq_true rfl, Nat.le_of_ble_eq_true rfl⟩) hP hD hS rfl 0 rfl rfl rfl rfl hl.1 (Nat.le_of_ble_eq_true rfl) dL_law_432 rfl ⟨Nat.le_refl _, Nat.le_refl _⟩ (fun H locs hP hD hS => ?_)
  have hP : va_P (xD E) vwCl (wW E tq f q g h pq rq bq z ev' li te' pa im ++ wM E uq mo) H := hP
  have hD : va_D (fun q : Nat => s.heap.size ≤ q) (wW E tq f q g h pq rq bq z ev' li te' pa im ++ wM E uq mo) := hD
  refine lv_aload_n hx hb dL_law_435 rfl (lv_at hl 2 rfl) ?_
  refine lv_aload_n hx hb dL_law_436 rfl (lv_at hl 0 rfl) ?_
  refine lv_iload_n hx hb dL_law_437 rfl (lv_at hl 3 rfl) ?_
  refine lv_iconst (v := 1) hx hb dL_law_438 (by decide) ?_
  refine lv_iadd hx hb dL_law_439 ?_
  refine va_sld hx hb hX hbl hbA hS hi1 dL_law_440 ?_
  have hP : va_P (xD E) vwCl (wW E tq f q g h pq rq bq z ev' li te' pa im ++ (wM E uq mo ++ [])) H := by rw [List.append_nil]; exact hP
  have hD : va_D (fun q : Nat => s.heap.size ≤ q) (wW E tq f q g h pq rq bq z ev' li te' pa im ++ (wM E uq mo ++ [])) := by rw [List.append_nil]; exact hD
  refine x_mC (pre := wW E tq f q g h pq rq bq z ev' li te' pa im) (post := []) (As := [.int (xs (nI i + 1).toNatClampNeg)]) (rest := [.long r]) S hK (kX6_told l E uq mo (xs (nI i + 1).toNatClampNeg) hf2) (cwV 1 hts gL_law_X6_told rfl rfl rfl (by decide +kernel) ⟨Nat.le_of_ble_eq_true rfl, Nat.le_of_ble_eq_true rfl⟩) hP hD hS rfl 0 rfl rfl rfl rfl hl.1 (Nat.le_of_ble_eq_true rfl) dL_law_441 rfl ⟨Nat.le_refl _, Nat.le_refl _⟩ (fun H locs hP hD hS => ?_)
  have hP : va_P (xD E) vwCl (wW E tq f q g h pq rq bq z ev' li te' pa im ++ (wM E uq mo' ++ [])) H := hP
  have hD : va_D (fun q : Nat => s.heap.size ≤ q) (wW E tq f q g h pq rq bq z ev' li te' pa im ++ (wM E uq mo' ++ [])) := hD
  rw [List.append_nil] at hP hD
  refine x_lif_eq (tgt := 775) hx hb dL_law_444 dL_law_445 (by decide) (fun _ => ?_) (fun cn => absurd rfl cn)
  exact kx z ev' li te' pa im mo' _ _ hRel hP hD hS
set_option maxHeartbeats 4000000 in
set_option maxRecDepth 100000 in
theorem law_case_letter {p : Program} {l : Launch} {e : Env} {s : State} {m : MethodId} {below : List Frame} {meth : Method} {c : Code} {b L : Nat} {xs : Nat → Int32} (hL : L ≤ 2560) (C0 : lw_At p s m meth c b L xs) {E : xG} (hK : xK E s) {tq : Nat → Nat} {f : Nat → Nat} {q : Nat → Nat} {g : Nat → Nat} {h : Nat → Nat} {pq : Nat → Nat} {rq : Nat → Nat → Nat} {bq : Nat → Nat → Nat} {uq : Nat → Nat} (Rel : Fo → Ev → Li → Te → Pa → Im → Mo → Prop) (hsim : Sim_letter Rel) {i : Nat} (hi : i + 5 ≤ L) {ls : Array Slot} (hl : lv_has ls 4 [(0, .ref b), (1, .ref (tq 0)), (2, .ref (uq 0)), (3, .int (nI i))]) {z : Fo} {ev : Ev} {li : Li} {te : Te} {pa : Pa} {im : Im} {mo : Mo} {H : Heap} {locs : List Loc} (hRel : Rel z ev li te pa im mo) (hP : va_P (xD E) vwCl (wW E tq f q g h pq rq bq z ev li te pa im ++ wM E uq mo) H) (hD : va_D (fun q : Nat => s.heap.size ≤ q) (wW E tq f q g h pq rq bq z ev li te pa im ++ wM E uq mo)) (hS : va_S (fun q : Nat => s.heap.size ≤ q) s.heap H locs) (kx : (∀ (z' : Fo) (ev' : Ev) (li' : Li) (te' : Te) (pa' : Pa) (im' : Im) (mo' : Mo) (H : Heap) (locs : List Loc), Rel z' ev' li' te' pa' im' mo' → va_P (xD E) vwCl (wW E tq f q g h pq rq bq z' ev' li' te' pa' im' ++ wM E uq mo') H → va_D (fun q : Nat => s.heap.size ≤ q) (wW E tq f q g h pq rq bq z' ev' li' te' pa' im' ++ wM E uq mo') → va_S (fun q : Nat => s.heap.size ≤ q) s.heap H locs → W p l e room_1 s m #[Value.ref b] below meth c H locs 600000 7302250 (lw_Z below #[Value.ref b] s) (F0 m 775 ls []))) : W p l e room_1 s m #[Value.ref b] below meth c H locs 600000 7302250 (lw_Z below #[Value.ref b] s) (F0 m 450 ls []) := by
  obtain ⟨hx, hb, hr, hml, hown, hts, hX, hbl, hlocks, hgv⟩ := id C0
  have hts := fun w h => hts w (wsL_law_in w h)
  have hbA : ¬ (fun q : Nat => s.heap.size ≤ q) b := Nat.not_le.mpr hbl
  have S : CallFix p m c cL_law 4 s #[Value.ref b] wsL_law RL := ⟨hx, hb, hml, hown, hts⟩
  have hi1 : vp_in (nI i + 1) L := x_inS (k := 1) rfl hi hL (by decide)
  have hi2 : vp_in (nI i + 2) L := x_inS (k := 2) rfl hi hL (by decide)
  obtain ⟨r, hf1, hf2, hRel⟩ := hsim z ev li te pa im mo (xs (nI i + 1).toNatClampNeg) (xs (nI i + 2).toNatClampNeg) hRel
  refine lv_aload_n hx hb dL_law_450 rfl (lv_at hl 1 rfl) ?_
  refine lv_aload_n hx hb dL_law_451 rfl (lv_at hl 0 rfl) ?_
  refine lv_iload_n hx hb dL_law_452 rfl (lv_at hl 3 rfl) ?_
  refine lv_iconst (v := 1) hx hb dL_law_453 (by decide) ?_
  refine lv_iadd hx hb dL_law_454 ?_
  refine va_sld hx hb hX hbl hbA hS hi1 dL_law_455 ?_
  refine lv_aload_n hx hb dL_law_456 rfl (lv_at hl 0 rfl) ?_
  refine lv_iload_n hx hb dL_law_457 rfl (lv_at hl 3 rfl) ?_
  refine lv_iconst (v := 2) hx hb dL_law_458 (by decide) ?_
  refine lv_iadd hx hb dL_law_459 ?_
  refine va_sld hx hb hX hbl hbA hS hi2 dL_law_460 ?_
  refine x_pV (As := [.int (xs (nI i + 1).toNatClampNeg), .int (xs (nI i + 2).toNatClampNeg)]) (rest := []) S hK (kX5_letter l E tq f q g h pq rq bq z ev li te pa im (xs (nI i + 1).toNatClampNeg) (xs (nI i + 2).toNatClampNeg) hf1) (cwV 2 hts gL_law_X5_letter rfl rfl rfl (by decide +kernel) ⟨Nat.le_of_ble_eq_true rfl, Nat.le_of_ble_eq_true rfl⟩) hP.left 0 rfl rfl rfl rfl hl.1 (Nat.le_of_ble_eq_true rfl) dL_law_461 rfl ⟨Nat.le_refl _, Nat.le_refl _⟩ ?_
  refine lv_aload_n hx hb dL_law_464 rfl (lv_at hl 2 rfl) ?_
  refine lv_aload_n hx hb dL_law_465 rfl (lv_at hl 0 rfl) ?_
  refine lv_iload_n hx hb dL_law_466 rfl (lv_at hl 3 rfl) ?_
  refine lv_iconst (v := 1) hx hb dL_law_467 (by decide) ?_
  refine lv_iadd hx hb dL_law_468 ?_
  refine va_sld hx hb hX hbl hbA hS hi1 dL_law_469 ?_
  refine lv_aload_n hx hb dL_law_470 rfl (lv_at hl 0 rfl) ?_
  refine lv_iload_n hx hb dL_law_471 rfl (lv_at hl 3 rfl) ?_
  refine lv_iconst (v := 2) hx hb dL_law_472 (by decide) ?_
  refine lv_iadd hx hb dL_law_473 ?_
  refine va_sld hx hb hX hbl hbA hS hi2 dL_law_474 ?_
  refine x_pV (As := [.int (xs (nI i + 1).toNatClampNeg), .int (xs (nI i + 2).toNatClampNeg)]) (rest := [.int r]) S hK (kX6_letter l E uq mo (xs (nI i + 1).toNatClampNeg) (xs (nI i + 2).toNatClampNeg) hf2) (cwV 2 hts gL_law_X6_letter rfl rfl rfl (by decide +kernel) ⟨Nat.le_of_ble_eq_true rfl, Nat.le_of_ble_eq_true rfl⟩) hP.right 0 rfl rfl rfl rfl hl.1 (Nat.le_of_ble_eq_true rfl) dL_law_475 rfl ⟨Nat.le_refl _, Nat.le_refl _⟩ ?_
  refine lv_icmp_eq (tgt := 775) hx hb dL_law_478 (by decide) (fun _ => ?_) (fun cn => absurd rfl cn)
  exact kx z ev li te pa im mo _ _ hRel hP hD hS
set_option maxHeartbeats 4000000 in
set_option maxRecDepth 100000 in
theorem law_case_back {p : Program} {l : Launch} {e : Env} {s : State} {m : MethodId} {below : List Frame} {meth : Method} {c : Code} {b L : Nat} {xs : Nat → Int32} (hL : L ≤ 2560) (C0 : lw_At p s m meth c b L xs) {E : xG} (hK : xK E s) {tq : Nat → Nat} {f : Nat → Nat} {q : Nat → Nat} {g : Nat → Nat} {h : Nat → Nat} {pq : Nat → Nat} {rq : Nat → Nat → Nat} {bq : Nat → Nat → Nat} {uq : Nat → Nat} (Rel : Fo → Ev → Li → Te → Pa → Im → Mo → Prop) (hsim : Sim_back Rel) {i : Nat} (hi : i + 5 ≤ L) {ls : Array Slot} (hl : lv_has ls 4 [(0, .ref b), (1, .ref (tq 0)), (2, .ref (uq 0)), (3, .int (nI i))]) {z : Fo} {ev : Ev} {li : Li} {te : Te} {pa : Pa} {im : Im} {mo : Mo} {H : Heap} {locs : List Loc} (hRel : Rel z ev li te pa im mo) (hP : va_P (xD E) vwCl (wW E tq f q g h pq rq bq z ev li te pa im ++ wM E uq mo) H) (hD : va_D (fun q : Nat => s.heap.size ≤ q) (wW E tq f q g h pq rq bq z ev li te pa im ++ wM E uq mo)) (hS : va_S (fun q : Nat => s.heap.size ≤ q) s.heap H locs) (kx : (∀ (z' : Fo) (ev' : Ev) (li' : Li) (te' : Te) (pa' : Pa) (im' : Im) (mo' : Mo) (H : Heap) (locs : List Loc), Rel z' ev' li' te' pa' im' mo' → va_P (xD E) vwCl (wW E tq f q g h pq rq bq z' ev' li' te' pa' im' ++ wM E uq mo') H → va_D (fun q : Nat => s.heap.size ≤ q) (wW E tq f q g h pq rq bq z' ev' li' te' pa' im' ++ wM E uq mo') → va_S (fun q : Nat => s.heap.size ≤ q) s.heap H locs → W p l e room_1 s m #[Value.ref b] below meth c H locs 600000 7302250 (lw_Z below #[Value.ref b] s) (F0 m 775 ls []))) : W p l e room_1 s m #[Value.ref b] below meth c H locs 600000 7302250 (lw_Z below #[Value.ref b] s) (F0 m 483 ls []) := by
  obtain ⟨hx, hb, hr, hml, hown, hts, hX, hbl, hlocks, hgv⟩ := id C0
  have hts := fun w h => hts w (wsL_law_in w h)
  have hbA : ¬ (fun q : Nat => s.heap.size ≤ q) b := Nat.not_le.mpr hbl
  have S : CallFix p m c cL_law 4 s #[Value.ref b] wsL_law RL := ⟨hx, hb, hml, hown, hts⟩
  have hi1 : vp_in (nI i + 1) L := x_inS (k := 1) rfl hi hL (by decide)
  have hi2 : vp_in (nI i + 2) L := x_inS (k := 2) rfl hi hL (by decide)
  have hi3 : vp_in (nI i + 3) L := x_inS (k := 3) rfl hi hL (by decide)
  obtain ⟨r, hf1, hf2, hRel⟩ := hsim z ev li te pa im mo (xs (nI i + 1).toNatClampNeg) (xs (nI i + 2).toNatClampNeg) (xs (nI i + 3).toNatClampNeg) hRel
  refine lv_aload_n hx hb dL_law_483 rfl (lv_at hl 1 rfl) ?_
  refine lv_aload_n hx hb dL_law_484 rfl (lv_at hl 0 rfl) ?_
  refine lv_iload_n hx hb dL_law_485 rfl (lv_at hl 3 rfl) ?_
  refine lv_iconst (v := 1) hx hb dL_law_486 (by decide) ?_
  refine lv_iadd hx hb dL_law_487 ?_
  refine va_sld hx hb hX hbl hbA hS hi1 dL_law_488 ?_
  refine lv_aload_n hx hb dL_law_489 rfl (lv_at hl 0 rfl) ?_
  refine lv_iload_n hx hb dL_law_490 rfl (lv_at hl 3 rfl) ?_
  refine lv_iconst (v := 2) hx hb dL_law_491 (by decide) ?_
  refine lv_iadd hx hb dL_law_492 ?_
  refine va_sld hx hb hX hbl hbA hS hi2 dL_law_493 ?_
  refine lv_aload_n hx hb dL_law_494 rfl (lv_at hl 0 rfl) ?_
  refine lv_iload_n hx hb dL_law_495 rfl (lv_at hl 3 rfl) ?_
  refine lv_iconst (v := 3) hx hb dL_law_496 (by decide) ?_
  refine lv_iadd hx hb dL_law_497 ?_
  refine va_sld hx hb hX hbl hbA hS hi3 dL_law_498 ?_
  refine x_pV (As := [.int (xs (nI i + 1).toNatClampNeg), .int (xs (nI i + 2).toNatClampNeg), .int (xs (nI i + 3).toNatClampNeg)]) (rest := []) S hK (kX5_back l E tq f q g h pq rq bq z ev li te pa im (xs (nI i + 1).toNatClampNeg) (xs (nI i + 2).toNatClampNeg) (xs (nI i + 3).toNatClampNeg) hf1) (cwV 3 hts gL_law_X5_back rfl rfl rfl (by decide +kernel) ⟨Nat.le_of_ble_eq_true rfl, Nat.le_of_ble_eq_true rfl⟩) hP.left 0 rfl rfl rfl rfl hl.1 (Nat.le_of_ble_eq_true rfl) dL_law_499 rfl ⟨Nat.le_refl _, Nat.le_refl _⟩ ?_
  refine lv_aload_n hx hb dL_law_502 rfl (lv_at hl 2 rfl) ?_
  refine lv_aload_n hx hb dL_law_503 rfl (lv_at hl 0 rfl) ?_
  refine lv_iload_n hx hb dL_law_504 rfl (lv_at hl 3 rfl) ?_
  refine lv_iconst (v := 1) hx hb dL_law_505 (by decide) ?_
  refine lv_iadd hx hb dL_law_506 ?_
  refine va_sld hx hb hX hbl hbA hS hi1 dL_law_507 ?_
  refine lv_aload_n hx hb dL_law_508 rfl (lv_at hl 0 rfl) ?_
  refine lv_iload_n hx hb dL_law_509 rfl (lv_at hl 3 rfl) ?_
  refine lv_iconst (v := 2) hx hb dL_law_510 (by decide) ?_
  refine lv_iadd hx hb dL_law_511 ?_
  refine va_sld hx hb hX hbl hbA hS hi2 dL_law_512 ?_
  refine lv_aload_n hx hb dL_law_513 rfl (lv_at hl 0 rfl) ?_
  refine lv_iload_n hx hb dL_law_514 rfl (lv_at hl 3 rfl) ?_
  refine lv_iconst (v := 3) hx hb dL_law_515 (by decide) ?_
  refine lv_iadd hx hb dL_law_516 ?_
  refine va_sld hx hb hX hbl hbA hS hi3 dL_law_517 ?_
  refine x_pV (As := [.int (xs (nI i + 1).toNatClampNeg), .int (xs (nI i + 2).toNatClampNeg), .int (xs (nI i + 3).toNatClampNeg)]) (rest := [.int r]) S hK (kX6_back l E uq mo (xs (nI i + 1).toNatClampNeg) (xs (nI i + 2).toNatClampNeg) (xs (nI i + 3).toNatClampNeg) hf2) (cwV 3 hts gL_law_X6_back rfl rfl rfl (by decide +kernel) ⟨Nat.le_of_ble_eq_true rfl, Nat.le_of_ble_eq_true rfl⟩) hP.right 0 rfl rfl rfl rfl hl.1 (Nat.le_of_ble_eq_true rfl) dL_law_518 rfl ⟨Nat.le_refl _, Nat.le_refl _⟩ ?_
  refine lv_icmp_eq (tgt := 775) hx hb dL_law_521 (by decide) (fun _ => ?_) (fun cn => absurd rfl cn)
  exact kx z ev li te pa im mo _ _ hRel hP hD hS
set_option maxHeartbeats 4000000 in
set_option maxRecDepth 100000 in
theorem law_case_space {p : Program} {l : Launch} {e : Env} {s : State} {m : MethodId} {below : List Frame} {meth : Method} {c : Code} {b L : Nat} {xs : Nat → Int32} (hL : L ≤ 2560) (C0 : lw_At p s m meth c b L xs) {E : xG} (hK : xK E s) {tq : Nat → Nat} {f : Nat → Nat} {q : Nat → Nat} {g : Nat → Nat} {h : Nat → Nat} {pq : Nat → Nat} {rq : Nat → Nat → Nat} {bq : Nat → Nat → Nat} {uq : Nat → Nat} (Rel : Fo → Ev → Li → Te → Pa → Im → Mo → Prop) (hsim : Sim_space Rel) {i : Nat} (hi : i + 5 ≤ L) {ls : Array Slot} (hl : lv_has ls 4 [(0, .ref b), (1, .ref (tq 0)), (2, .ref (uq 0)), (3, .int (nI i))]) {z : Fo} {ev : Ev} {li : Li} {te : Te} {pa : Pa} {im : Im} {mo : Mo} {H : Heap} {locs : List Loc} (hRel : Rel z ev li te pa im mo) (hP : va_P (xD E) vwCl (wW E tq f q g h pq rq bq z ev li te pa im ++ wM E uq mo) H) (hD : va_D (fun q : Nat => s.heap.size ≤ q) (wW E tq f q g h pq rq bq z ev li te pa im ++ wM E uq mo)) (hS : va_S (fun q : Nat => s.heap.size ≤ q) s.heap H locs) (kx : (∀ (z' : Fo) (ev' : Ev) (li' : Li) (te' : Te) (pa' : Pa) (im' : Im) (mo' : Mo) (H : Heap) (locs : List Loc), Rel z' ev' li' te' pa' im' mo' → va_P (xD E) vwCl (wW E tq f q g h pq rq bq z' ev' li' te' pa' im' ++ wM E uq mo') H → va_D (fun q : Nat => s.heap.size ≤ q) (wW E tq f q g h pq rq bq z' ev' li' te' pa' im' ++ wM E uq mo') → va_S (fun q : Nat => s.heap.size ≤ q) s.heap H locs → W p l e room_1 s m #[Value.ref b] below meth c H locs 600000 7302250 (lw_Z below #[Value.ref b] s) (F0 m 775 ls []))) : W p l e room_1 s m #[Value.ref b] below meth c H locs 600000 7302250 (lw_Z below #[Value.ref b] s) (F0 m 526 ls []) := by
  obtain ⟨hx, hb, hr, hml, hown, hts, hX, hbl, hlocks, hgv⟩ := id C0
  have hts := fun w h => hts w (wsL_law_in w h)
  have hbA : ¬ (fun q : Nat => s.heap.size ≤ q) b := Nat.not_le.mpr hbl
  have S : CallFix p m c cL_law 4 s #[Value.ref b] wsL_law RL := ⟨hx, hb, hml, hown, hts⟩
  have hi1 : vp_in (nI i + 1) L := x_inS (k := 1) rfl hi hL (by decide)
  have hi2 : vp_in (nI i + 2) L := x_inS (k := 2) rfl hi hL (by decide)
  have hi3 : vp_in (nI i + 3) L := x_inS (k := 3) rfl hi hL (by decide)
  obtain ⟨r, ev', mo', hf1, hf2, hRel⟩ := hsim z ev li te pa im mo (xs (nI i + 1).toNatClampNeg) (xs (nI i + 2).toNatClampNeg) (xs (nI i + 3).toNatClampNeg) hRel
  refine lv_aload_n hx hb dL_law_526 rfl (lv_at hl 1 rfl) ?_
  refine lv_aload_n hx hb dL_law_527 rfl (lv_at hl 0 rfl) ?_
  refine lv_iload_n hx hb dL_law_528 rfl (lv_at hl 3 rfl) ?_
  refine lv_iconst (v := 1) hx hb dL_law_529 (by decide) ?_
  refine lv_iadd hx hb dL_law_530 ?_
  refine va_sld hx hb hX hbl hbA hS hi1 dL_law_531 ?_
  refine lv_aload_n hx hb dL_law_532 rfl (lv_at hl 0 rfl) ?_
  refine lv_iload_n hx hb dL_law_533 rfl (lv_at hl 3 rfl) ?_
  refine lv_iconst (v := 2) hx hb dL_law_534 (by decide) ?_
  refine lv_iadd hx hb dL_law_535 ?_
  refine va_sld hx hb hX hbl hbA hS hi2 dL_law_536 ?_
  refine lv_aload_n hx hb dL_law_537 rfl (lv_at hl 0 rfl) ?_
  refine lv_iload_n hx hb dL_law_538 rfl (lv_at hl 3 rfl) ?_
  refine lv_iconst (v := 3) hx hb dL_law_539 (by decide) ?_
  refine lv_iadd hx hb dL_law_540 ?_
  refine va_sld hx hb hX hbl hbA hS hi3 dL_law_541 ?_
  refine x_mC (pre := []) (post := wM E uq mo) (As := [.int (xs (nI i + 1).toNatClampNeg), .int (xs (nI i + 2).toNatClampNeg), .int (xs (nI i + 3).toNatClampNeg)]) (rest := []) S hK (kX5_space l E tq f q g h pq rq bq z ev li te pa im (xs (nI i + 1).toNatClampNeg) (xs (nI i + 2).toNatClampNeg) (xs (nI i + 3).toNatClampNeg) hf1) (cwV 3 hts gL_law_X5_space rfl rfl rfl (by decide +kernel) ⟨Nat.le_of_ble_eq_true rfl, Nat.le_of_ble_eq_true rfl⟩) hP hD hS rfl 0 rfl rfl rfl rfl hl.1 (Nat.le_of_ble_eq_true rfl) dL_law_542 rfl ⟨Nat.le_refl _, Nat.le_refl _⟩ (fun H locs hP hD hS => ?_)
  have hP : va_P (xD E) vwCl (wW E tq f q g h pq rq bq z ev' li te pa im ++ wM E uq mo) H := hP
  have hD : va_D (fun q : Nat => s.heap.size ≤ q) (wW E tq f q g h pq rq bq z ev' li te pa im ++ wM E uq mo) := hD
  refine lv_aload_n hx hb dL_law_545 rfl (lv_at hl 2 rfl) ?_
  refine lv_aload_n hx hb dL_law_546 rfl (lv_at hl 0 rfl) ?_
  refine lv_iload_n hx hb dL_law_547 rfl (lv_at hl 3 rfl) ?_
  refine lv_iconst (v := 1) hx hb dL_law_548 (by decide) ?_
  refine lv_iadd hx hb dL_law_549 ?_
  refine va_sld hx hb hX hbl hbA hS hi1 dL_law_550 ?_
  refine lv_aload_n hx hb dL_law_551 rfl (lv_at hl 0 rfl) ?_
  refine lv_iload_n hx hb dL_law_552 rfl (lv_at hl 3 rfl) ?_
  refine lv_iconst (v := 2) hx hb dL_law_553 (by decide) ?_
  refine lv_iadd hx hb dL_law_554 ?_
  refine va_sld hx hb hX hbl hbA hS hi2 dL_law_555 ?_
  refine lv_aload_n hx hb dL_law_556 rfl (lv_at hl 0 rfl) ?_
  refine lv_iload_n hx hb dL_law_557 rfl (lv_at hl 3 rfl) ?_
  refine lv_iconst (v := 3) hx hb dL_law_558 (by decide) ?_
  refine lv_iadd hx hb dL_law_559 ?_
  refine va_sld hx hb hX hbl hbA hS hi3 dL_law_560 ?_
  have hP : va_P (xD E) vwCl (wW E tq f q g h pq rq bq z ev' li te pa im ++ (wM E uq mo ++ [])) H := by rw [List.append_nil]; exact hP
  have hD : va_D (fun q : Nat => s.heap.size ≤ q) (wW E tq f q g h pq rq bq z ev' li te pa im ++ (wM E uq mo ++ [])) := by rw [List.append_nil]; exact hD
  refine x_mC (pre := wW E tq f q g h pq rq bq z ev' li te pa im) (post := []) (As := [.int (xs (nI i + 1).toNatClampNeg), .int (xs (nI i + 2).toNatClampNeg), .int (xs (nI i + 3).toNatClampNeg)]) (rest := [.long r]) S hK (kX6_space l E uq mo (xs (nI i + 1).toNatClampNeg) (xs (nI i + 2).toNatClampNeg) (xs (nI i + 3).toNatClampNeg) hf2) (cwV 3 hts gL_law_X6_space rfl rfl rfl (by decide +kernel) ⟨Nat.le_of_ble_eq_true rfl, Nat.le_of_ble_eq_true rfl⟩) hP hD hS rfl 0 rfl rfl rfl rfl hl.1 (Nat.le_of_ble_eq_true rfl) dL_law_561 rfl ⟨Nat.le_refl _, Nat.le_refl _⟩ (fun H locs hP hD hS => ?_)
  have hP : va_P (xD E) vwCl (wW E tq f q g h pq rq bq z ev' li te pa im ++ (wM E uq mo' ++ [])) H := hP
  have hD : va_D (fun q : Nat => s.heap.size ≤ q) (wW E tq f q g h pq rq bq z ev' li te pa im ++ (wM E uq mo' ++ [])) := hD
  rw [List.append_nil] at hP hD
  refine x_lif_eq (tgt := 775) hx hb dL_law_564 dL_law_565 (by decide) (fun _ => ?_) (fun cn => absurd rfl cn)
  exact kx z ev' li te pa im mo' _ _ hRel hP hD hS
set_option maxHeartbeats 4000000 in
set_option maxRecDepth 100000 in
theorem law_case_pair {p : Program} {l : Launch} {e : Env} {s : State} {m : MethodId} {below : List Frame} {meth : Method} {c : Code} {b L : Nat} {xs : Nat → Int32} (hL : L ≤ 2560) (C0 : lw_At p s m meth c b L xs) {E : xG} (hK : xK E s) {tq : Nat → Nat} {f : Nat → Nat} {q : Nat → Nat} {g : Nat → Nat} {h : Nat → Nat} {pq : Nat → Nat} {rq : Nat → Nat → Nat} {bq : Nat → Nat → Nat} {uq : Nat → Nat} (Rel : Fo → Ev → Li → Te → Pa → Im → Mo → Prop) (hsim : Sim_pair Rel) {i : Nat} (hi : i + 5 ≤ L) {ls : Array Slot} (hl : lv_has ls 4 [(0, .ref b), (1, .ref (tq 0)), (2, .ref (uq 0)), (3, .int (nI i))]) {z : Fo} {ev : Ev} {li : Li} {te : Te} {pa : Pa} {im : Im} {mo : Mo} {H : Heap} {locs : List Loc} (hRel : Rel z ev li te pa im mo) (hP : va_P (xD E) vwCl (wW E tq f q g h pq rq bq z ev li te pa im ++ wM E uq mo) H) (hD : va_D (fun q : Nat => s.heap.size ≤ q) (wW E tq f q g h pq rq bq z ev li te pa im ++ wM E uq mo)) (hS : va_S (fun q : Nat => s.heap.size ≤ q) s.heap H locs) (kx : (∀ (z' : Fo) (ev' : Ev) (li' : Li) (te' : Te) (pa' : Pa) (im' : Im) (mo' : Mo) (H : Heap) (locs : List Loc), Rel z' ev' li' te' pa' im' mo' → va_P (xD E) vwCl (wW E tq f q g h pq rq bq z' ev' li' te' pa' im' ++ wM E uq mo') H → va_D (fun q : Nat => s.heap.size ≤ q) (wW E tq f q g h pq rq bq z' ev' li' te' pa' im' ++ wM E uq mo') → va_S (fun q : Nat => s.heap.size ≤ q) s.heap H locs → W p l e room_1 s m #[Value.ref b] below meth c H locs 600000 7302250 (lw_Z below #[Value.ref b] s) (F0 m 775 ls []))) : W p l e room_1 s m #[Value.ref b] below meth c H locs 600000 7302250 (lw_Z below #[Value.ref b] s) (F0 m 570 ls []) := by
  obtain ⟨hx, hb, hr, hml, hown, hts, hX, hbl, hlocks, hgv⟩ := id C0
  have hts := fun w h => hts w (wsL_law_in w h)
  have hbA : ¬ (fun q : Nat => s.heap.size ≤ q) b := Nat.not_le.mpr hbl
  have S : CallFix p m c cL_law 4 s #[Value.ref b] wsL_law RL := ⟨hx, hb, hml, hown, hts⟩
  have hi1 : vp_in (nI i + 1) L := x_inS (k := 1) rfl hi hL (by decide)
  have hi2 : vp_in (nI i + 2) L := x_inS (k := 2) rfl hi hL (by decide)
  have hi3 : vp_in (nI i + 3) L := x_inS (k := 3) rfl hi hL (by decide)
  obtain ⟨r, ev', mo', hf1, hf2, hRel⟩ := hsim z ev li te pa im mo (xs (nI i + 1).toNatClampNeg) (xs (nI i + 2).toNatClampNeg) (xs (nI i + 3).toNatClampNeg) hRel
  refine lv_aload_n hx hb dL_law_570 rfl (lv_at hl 1 rfl) ?_
  refine lv_aload_n hx hb dL_law_571 rfl (lv_at hl 0 rfl) ?_
  refine lv_iload_n hx hb dL_law_572 rfl (lv_at hl 3 rfl) ?_
  refine lv_iconst (v := 1) hx hb dL_law_573 (by decide) ?_
  refine lv_iadd hx hb dL_law_574 ?_
  refine va_sld hx hb hX hbl hbA hS hi1 dL_law_575 ?_
  refine lv_aload_n hx hb dL_law_576 rfl (lv_at hl 0 rfl) ?_
  refine lv_iload_n hx hb dL_law_577 rfl (lv_at hl 3 rfl) ?_
  refine lv_iconst (v := 2) hx hb dL_law_578 (by decide) ?_
  refine lv_iadd hx hb dL_law_579 ?_
  refine va_sld hx hb hX hbl hbA hS hi2 dL_law_580 ?_
  refine lv_aload_n hx hb dL_law_581 rfl (lv_at hl 0 rfl) ?_
  refine lv_iload_n hx hb dL_law_582 rfl (lv_at hl 3 rfl) ?_
  refine lv_iconst (v := 3) hx hb dL_law_583 (by decide) ?_
  refine lv_iadd hx hb dL_law_584 ?_
  refine va_sld hx hb hX hbl hbA hS hi3 dL_law_585 ?_
  refine x_mC (pre := []) (post := wM E uq mo) (As := [.int (xs (nI i + 1).toNatClampNeg), .int (xs (nI i + 2).toNatClampNeg), .int (xs (nI i + 3).toNatClampNeg)]) (rest := []) S hK (kX5_pair l E tq f q g h pq rq bq z ev li te pa im (xs (nI i + 1).toNatClampNeg) (xs (nI i + 2).toNatClampNeg) (xs (nI i + 3).toNatClampNeg) hf1) (cwV 3 hts gL_law_X5_pair rfl rfl rfl (by decide +kernel) ⟨Nat.le_of_ble_eq_true rfl, Nat.le_of_ble_eq_true rfl⟩) hP hD hS rfl 0 rfl rfl rfl rfl hl.1 (Nat.le_of_ble_eq_true rfl) dL_law_586 rfl ⟨Nat.le_refl _, Nat.le_refl _⟩ (fun H locs hP hD hS => ?_)
  have hP : va_P (xD E) vwCl (wW E tq f q g h pq rq bq z ev' li te pa im ++ wM E uq mo) H := hP
  have hD : va_D (fun q : Nat => s.heap.size ≤ q) (wW E tq f q g h pq rq bq z ev' li te pa im ++ wM E uq mo) := hD
  refine lv_aload_n hx hb dL_law_589 rfl (lv_at hl 2 rfl) ?_
  refine lv_aload_n hx hb dL_law_590 rfl (lv_at hl 0 rfl) ?_
  refine lv_iload_n hx hb dL_law_591 rfl (lv_at hl 3 rfl) ?_
  refine lv_iconst (v := 1) hx hb dL_law_592 (by decide) ?_
  refine lv_iadd hx hb dL_law_593 ?_
  refine va_sld hx hb hX hbl hbA hS hi1 dL_law_594 ?_
  refine lv_aload_n hx hb dL_law_595 rfl (lv_at hl 0 rfl) ?_
  refine lv_iload_n hx hb dL_law_596 rfl (lv_at hl 3 rfl) ?_
  refine lv_iconst (v := 2) hx hb dL_law_597 (by decide) ?_
  refine lv_iadd hx hb dL_law_598 ?_
  refine va_sld hx hb hX hbl hbA hS hi2 dL_law_599 ?_
  refine lv_aload_n hx hb dL_law_600 rfl (lv_at hl 0 rfl) ?_
  refine lv_iload_n hx hb dL_law_601 rfl (lv_at hl 3 rfl) ?_
  refine lv_iconst (v := 3) hx hb dL_law_602 (by decide) ?_
  refine lv_iadd hx hb dL_law_603 ?_
  refine va_sld hx hb hX hbl hbA hS hi3 dL_law_604 ?_
  have hP : va_P (xD E) vwCl (wW E tq f q g h pq rq bq z ev' li te pa im ++ (wM E uq mo ++ [])) H := by rw [List.append_nil]; exact hP
  have hD : va_D (fun q : Nat => s.heap.size ≤ q) (wW E tq f q g h pq rq bq z ev' li te pa im ++ (wM E uq mo ++ [])) := by rw [List.append_nil]; exact hD
  refine x_mC (pre := wW E tq f q g h pq rq bq z ev' li te pa im) (post := []) (As := [.int (xs (nI i + 1).toNatClampNeg), .int (xs (nI i + 2).toNatClampNeg), .int (xs (nI i + 3).toNatClampNeg)]) (rest := [.long r]) S hK (kX6_pair l E uq mo (xs (nI i + 1).toNatClampNeg) (xs (nI i + 2).toNatClampNeg) (xs (nI i + 3).toNatClampNeg) hf2) (cwV 3 hts gL_law_X6_pair rfl rfl rfl (by decide +kernel) ⟨Nat.le_of_ble_eq_true rfl, Nat.le_of_ble_eq_true rfl⟩) hP hD hS rfl 0 rfl rfl rfl rfl hl.1 (Nat.le_of_ble_eq_true rfl) dL_law_605 rfl ⟨Nat.le_refl _, Nat.le_refl _⟩ (fun H locs hP hD hS => ?_)
  have hP : va_P (xD E) vwCl (wW E tq f q g h pq rq bq z ev' li te pa im ++ (wM E uq mo' ++ [])) H := hP
  have hD : va_D (fun q : Nat => s.heap.size ≤ q) (wW E tq f q g h pq rq bq z ev' li te pa im ++ (wM E uq mo' ++ [])) := hD
  rw [List.append_nil] at hP hD
  refine x_lif_eq (tgt := 775) hx hb dL_law_608 dL_law_609 (by decide) (fun _ => ?_) (fun cn => absurd rfl cn)
  exact kx z ev' li te pa im mo' _ _ hRel hP hD hS
set_option maxHeartbeats 4000000 in
set_option maxRecDepth 100000 in
theorem law_case_white {p : Program} {l : Launch} {e : Env} {s : State} {m : MethodId} {below : List Frame} {meth : Method} {c : Code} {b L : Nat} {xs : Nat → Int32} (hL : L ≤ 2560) (C0 : lw_At p s m meth c b L xs) {E : xG} (hK : xK E s) {tq : Nat → Nat} {f : Nat → Nat} {q : Nat → Nat} {g : Nat → Nat} {h : Nat → Nat} {pq : Nat → Nat} {rq : Nat → Nat → Nat} {bq : Nat → Nat → Nat} {uq : Nat → Nat} (Rel : Fo → Ev → Li → Te → Pa → Im → Mo → Prop) (hsim : Sim_white Rel) {i : Nat} (hi : i + 5 ≤ L) {ls : Array Slot} (hl : lv_has ls 4 [(0, .ref b), (1, .ref (tq 0)), (2, .ref (uq 0)), (3, .int (nI i))]) {z : Fo} {ev : Ev} {li : Li} {te : Te} {pa : Pa} {im : Im} {mo : Mo} {H : Heap} {locs : List Loc} (hRel : Rel z ev li te pa im mo) (hP : va_P (xD E) vwCl (wW E tq f q g h pq rq bq z ev li te pa im ++ wM E uq mo) H) (hD : va_D (fun q : Nat => s.heap.size ≤ q) (wW E tq f q g h pq rq bq z ev li te pa im ++ wM E uq mo)) (hS : va_S (fun q : Nat => s.heap.size ≤ q) s.heap H locs) (kx : (∀ (z' : Fo) (ev' : Ev) (li' : Li) (te' : Te) (pa' : Pa) (im' : Im) (mo' : Mo) (H : Heap) (locs : List Loc), Rel z' ev' li' te' pa' im' mo' → va_P (xD E) vwCl (wW E tq f q g h pq rq bq z' ev' li' te' pa' im' ++ wM E uq mo') H → va_D (fun q : Nat => s.heap.size ≤ q) (wW E tq f q g h pq rq bq z' ev' li' te' pa' im' ++ wM E uq mo') → va_S (fun q : Nat => s.heap.size ≤ q) s.heap H locs → W p l e room_1 s m #[Value.ref b] below meth c H locs 600000 7302250 (lw_Z below #[Value.ref b] s) (F0 m 775 ls []))) : W p l e room_1 s m #[Value.ref b] below meth c H locs 600000 7302250 (lw_Z below #[Value.ref b] s) (F0 m 614 ls []) := by
  obtain ⟨hx, hb, hr, hml, hown, hts, hX, hbl, hlocks, hgv⟩ := id C0
  have hts := fun w h => hts w (wsL_law_in w h)
  have hbA : ¬ (fun q : Nat => s.heap.size ≤ q) b := Nat.not_le.mpr hbl
  have S : CallFix p m c cL_law 4 s #[Value.ref b] wsL_law RL := ⟨hx, hb, hml, hown, hts⟩
  have hi1 : vp_in (nI i + 1) L := x_inS (k := 1) rfl hi hL (by decide)
  have hi2 : vp_in (nI i + 2) L := x_inS (k := 2) rfl hi hL (by decide)
  obtain ⟨r, ev', mo', hf1, hf2, hRel⟩ := hsim z ev li te pa im mo (xs (nI i + 1).toNatClampNeg) (xs (nI i + 2).toNatClampNeg) hRel
  refine lv_aload_n hx hb dL_law_614 rfl (lv_at hl 1 rfl) ?_
  refine lv_aload_n hx hb dL_law_615 rfl (lv_at hl 0 rfl) ?_
  refine lv_iload_n hx hb dL_law_616 rfl (lv_at hl 3 rfl) ?_
  refine lv_iconst (v := 1) hx hb dL_law_617 (by decide) ?_
  refine lv_iadd hx hb dL_law_618 ?_
  refine va_sld hx hb hX hbl hbA hS hi1 dL_law_619 ?_
  refine lv_aload_n hx hb dL_law_620 rfl (lv_at hl 0 rfl) ?_
  refine lv_iload_n hx hb dL_law_621 rfl (lv_at hl 3 rfl) ?_
  refine lv_iconst (v := 2) hx hb dL_law_622 (by decide) ?_
  refine lv_iadd hx hb dL_law_623 ?_
  refine va_sld hx hb hX hbl hbA hS hi2 dL_law_624 ?_
  refine x_mC (pre := []) (post := wM E uq mo) (As := [.int (xs (nI i + 1).toNatClampNeg), .int (xs (nI i + 2).toNatClampNeg)]) (rest := []) S hK (kX5_white l E tq f q g h pq rq bq z ev li te pa im (xs (nI i + 1).toNatClampNeg) (xs (nI i + 2).toNatClampNeg) hf1) (cwV 2 hts gL_law_X5_white rfl rfl rfl (by decide +kernel) ⟨Nat.le_of_ble_eq_true rfl, Nat.le_of_ble_eq_true rfl⟩) hP hD hS rfl 0 rfl rfl rfl rfl hl.1 (Nat.le_of_ble_eq_true rfl) dL_law_625 rfl ⟨Nat.le_refl _, Nat.le_refl _⟩ (fun H locs hP hD hS => ?_)
  have hP : va_P (xD E) vwCl (wW E tq f q g h pq rq bq z ev' li te pa im ++ wM E uq mo) H := hP
  have hD : va_D (fun q : Nat => s.heap.size ≤ q) (wW E tq f q g h pq rq bq z ev' li te pa im ++ wM E uq mo) := hD
  refine lv_aload_n hx hb dL_law_628 rfl (lv_at hl 2 rfl) ?_
  refine lv_aload_n hx hb dL_law_629 rfl (lv_at hl 0 rfl) ?_
  refine lv_iload_n hx hb dL_law_630 rfl (lv_at hl 3 rfl) ?_
  refine lv_iconst (v := 1) hx hb dL_law_631 (by decide) ?_
  refine lv_iadd hx hb dL_law_632 ?_
  refine va_sld hx hb hX hbl hbA hS hi1 dL_law_633 ?_
  refine lv_aload_n hx hb dL_law_634 rfl (lv_at hl 0 rfl) ?_
  refine lv_iload_n hx hb dL_law_635 rfl (lv_at hl 3 rfl) ?_
  refine lv_iconst (v := 2) hx hb dL_law_636 (by decide) ?_
  refine lv_iadd hx hb dL_law_637 ?_
  refine va_sld hx hb hX hbl hbA hS hi2 dL_law_638 ?_
  have hP : va_P (xD E) vwCl (wW E tq f q g h pq rq bq z ev' li te pa im ++ (wM E uq mo ++ [])) H := by rw [List.append_nil]; exact hP
  have hD : va_D (fun q : Nat => s.heap.size ≤ q) (wW E tq f q g h pq rq bq z ev' li te pa im ++ (wM E uq mo ++ [])) := by rw [List.append_nil]; exact hD
  refine x_mC (pre := wW E tq f q g h pq rq bq z ev' li te pa im) (post := []) (As := [.int (xs (nI i + 1).toNatClampNeg), .int (xs (nI i + 2).toNatClampNeg)]) (rest := [.int r]) S hK (kX6_white l E uq mo (xs (nI i + 1).toNatClampNeg) (xs (nI i + 2).toNatClampNeg) hf2) (cwV 2 hts gL_law_X6_white rfl rfl rfl (by decide +kernel) ⟨Nat.le_of_ble_eq_true rfl, Nat.le_of_ble_eq_true rfl⟩) hP hD hS rfl 0 rfl rfl rfl rfl hl.1 (Nat.le_of_ble_eq_true rfl) dL_law_639 rfl ⟨Nat.le_refl _, Nat.le_refl _⟩ (fun H locs hP hD hS => ?_)
  have hP : va_P (xD E) vwCl (wW E tq f q g h pq rq bq z ev' li te pa im ++ (wM E uq mo' ++ [])) H := hP
  have hD : va_D (fun q : Nat => s.heap.size ≤ q) (wW E tq f q g h pq rq bq z ev' li te pa im ++ (wM E uq mo' ++ [])) := hD
  rw [List.append_nil] at hP hD
  refine lv_icmp_eq (tgt := 775) hx hb dL_law_642 (by decide) (fun _ => ?_) (fun cn => absurd rfl cn)
  exact kx z ev' li te pa im mo' _ _ hRel hP hD hS
set_option maxHeartbeats 4000000 in
set_option maxRecDepth 100000 in
theorem law_case_set {p : Program} {l : Launch} {e : Env} {s : State} {m : MethodId} {below : List Frame} {meth : Method} {c : Code} {b L : Nat} {xs : Nat → Int32} (hL : L ≤ 2560) (C0 : lw_At p s m meth c b L xs) {E : xG} (hK : xK E s) {tq : Nat → Nat} {f : Nat → Nat} {q : Nat → Nat} {g : Nat → Nat} {h : Nat → Nat} {pq : Nat → Nat} {rq : Nat → Nat → Nat} {bq : Nat → Nat → Nat} {uq : Nat → Nat} (Rel : Fo → Ev → Li → Te → Pa → Im → Mo → Prop) (hsim : Sim_set Rel) {i : Nat} (hi : i + 5 ≤ L) {ls : Array Slot} (hl : lv_has ls 4 [(0, .ref b), (1, .ref (tq 0)), (2, .ref (uq 0)), (3, .int (nI i))]) {z : Fo} {ev : Ev} {li : Li} {te : Te} {pa : Pa} {im : Im} {mo : Mo} {H : Heap} {locs : List Loc} (hRel : Rel z ev li te pa im mo) (hP : va_P (xD E) vwCl (wW E tq f q g h pq rq bq z ev li te pa im ++ wM E uq mo) H) (hD : va_D (fun q : Nat => s.heap.size ≤ q) (wW E tq f q g h pq rq bq z ev li te pa im ++ wM E uq mo)) (hS : va_S (fun q : Nat => s.heap.size ≤ q) s.heap H locs) (kx : (∀ (z' : Fo) (ev' : Ev) (li' : Li) (te' : Te) (pa' : Pa) (im' : Im) (mo' : Mo) (H : Heap) (locs : List Loc), Rel z' ev' li' te' pa' im' mo' → va_P (xD E) vwCl (wW E tq f q g h pq rq bq z' ev' li' te' pa' im' ++ wM E uq mo') H → va_D (fun q : Nat => s.heap.size ≤ q) (wW E tq f q g h pq rq bq z' ev' li' te' pa' im' ++ wM E uq mo') → va_S (fun q : Nat => s.heap.size ≤ q) s.heap H locs → W p l e room_1 s m #[Value.ref b] below meth c H locs 600000 7302250 (lw_Z below #[Value.ref b] s) (F0 m 775 ls []))) : W p l e room_1 s m #[Value.ref b] below meth c H locs 600000 7302250 (lw_Z below #[Value.ref b] s) (F0 m 647 ls []) := by
  obtain ⟨hx, hb, hr, hml, hown, hts, hX, hbl, hlocks, hgv⟩ := id C0
  have hts := fun w h => hts w (wsL_law_in w h)
  have hbA : ¬ (fun q : Nat => s.heap.size ≤ q) b := Nat.not_le.mpr hbl
  have S : CallFix p m c cL_law 4 s #[Value.ref b] wsL_law RL := ⟨hx, hb, hml, hown, hts⟩
  have hi1 : vp_in (nI i + 1) L := x_inS (k := 1) rfl hi hL (by decide)
  obtain ⟨r, li', mo', hf1, hf2, hRel⟩ := hsim z ev li te pa im mo (xs (nI i + 1).toNatClampNeg) hRel
  refine lv_aload_n hx hb dL_law_647 rfl (lv_at hl 1 rfl) ?_
  refine lv_aload_n hx hb dL_law_648 rfl (lv_at hl 0 rfl) ?_
  refine lv_iload_n hx hb dL_law_649 rfl (lv_at hl 3 rfl) ?_
  refine lv_iconst (v := 1) hx hb dL_law_650 (by decide) ?_
  refine lv_iadd hx hb dL_law_651 ?_
  refine va_sld hx hb hX hbl hbA hS hi1 dL_law_652 ?_
  refine x_mC (pre := []) (post := wM E uq mo) (As := [.int (xs (nI i + 1).toNatClampNeg)]) (rest := []) S hK (kX5_set l E tq f q g h pq rq bq z ev li te pa im (xs (nI i + 1).toNatClampNeg) hf1) (cwV 1 hts gL_law_X5_set rfl rfl rfl (by decide +kernel) ⟨Nat.le_of_ble_eq_true rfl, Nat.le_of_ble_eq_true rfl⟩) hP hD hS rfl 0 rfl rfl rfl rfl hl.1 (Nat.le_of_ble_eq_true rfl) dL_law_653 rfl ⟨Nat.le_refl _, Nat.le_refl _⟩ (fun H locs hP hD hS => ?_)
  have hP : va_P (xD E) vwCl (wW E tq f q g h pq rq bq z ev li' te pa im ++ wM E uq mo) H := hP
  have hD : va_D (fun q : Nat => s.heap.size ≤ q) (wW E tq f q g h pq rq bq z ev li' te pa im ++ wM E uq mo) := hD
  refine lv_aload_n hx hb dL_law_656 rfl (lv_at hl 2 rfl) ?_
  refine lv_aload_n hx hb dL_law_657 rfl (lv_at hl 0 rfl) ?_
  refine lv_iload_n hx hb dL_law_658 rfl (lv_at hl 3 rfl) ?_
  refine lv_iconst (v := 1) hx hb dL_law_659 (by decide) ?_
  refine lv_iadd hx hb dL_law_660 ?_
  refine va_sld hx hb hX hbl hbA hS hi1 dL_law_661 ?_
  have hP : va_P (xD E) vwCl (wW E tq f q g h pq rq bq z ev li' te pa im ++ (wM E uq mo ++ [])) H := by rw [List.append_nil]; exact hP
  have hD : va_D (fun q : Nat => s.heap.size ≤ q) (wW E tq f q g h pq rq bq z ev li' te pa im ++ (wM E uq mo ++ [])) := by rw [List.append_nil]; exact hD
  refine x_mC (pre := wW E tq f q g h pq rq bq z ev li' te pa im) (post := []) (As := [.int (xs (nI i + 1).toNatClampNeg)]) (rest := [.int r]) S hK (kX6_set l E uq mo (xs (nI i + 1).toNatClampNeg) hf2) (cwV 1 hts gL_law_X6_set rfl rfl rfl (by decide +kernel) ⟨Nat.le_of_ble_eq_true rfl, Nat.le_of_ble_eq_true rfl⟩) hP hD hS rfl 0 rfl rfl rfl rfl hl.1 (Nat.le_of_ble_eq_true rfl) dL_law_662 rfl ⟨Nat.le_refl _, Nat.le_refl _⟩ (fun H locs hP hD hS => ?_)
  have hP : va_P (xD E) vwCl (wW E tq f q g h pq rq bq z ev li' te pa im ++ (wM E uq mo' ++ [])) H := hP
  have hD : va_D (fun q : Nat => s.heap.size ≤ q) (wW E tq f q g h pq rq bq z ev li' te pa im ++ (wM E uq mo' ++ [])) := hD
  rw [List.append_nil] at hP hD
  refine lv_icmp_eq (tgt := 775) hx hb dL_law_665 (by decide) (fun _ => ?_) (fun cn => absurd rfl cn)
  exact kx z ev li' te pa im mo' _ _ hRel hP hD hS
set_option maxHeartbeats 4000000 in
set_option maxRecDepth 100000 in
theorem law_case_wipe {p : Program} {l : Launch} {e : Env} {s : State} {m : MethodId} {below : List Frame} {meth : Method} {c : Code} {b L : Nat} {xs : Nat → Int32} (hL : L ≤ 2560) (C0 : lw_At p s m meth c b L xs) {E : xG} (hK : xK E s) {tq : Nat → Nat} {f : Nat → Nat} {q : Nat → Nat} {g : Nat → Nat} {h : Nat → Nat} {pq : Nat → Nat} {rq : Nat → Nat → Nat} {bq : Nat → Nat → Nat} {uq : Nat → Nat} (Rel : Fo → Ev → Li → Te → Pa → Im → Mo → Prop) (hsim : Sim_wipe Rel) {i : Nat} (hi : i + 5 ≤ L) {ls : Array Slot} (hl : lv_has ls 4 [(0, .ref b), (1, .ref (tq 0)), (2, .ref (uq 0)), (3, .int (nI i))]) {z : Fo} {ev : Ev} {li : Li} {te : Te} {pa : Pa} {im : Im} {mo : Mo} {H : Heap} {locs : List Loc} (hRel : Rel z ev li te pa im mo) (hP : va_P (xD E) vwCl (wW E tq f q g h pq rq bq z ev li te pa im ++ wM E uq mo) H) (hD : va_D (fun q : Nat => s.heap.size ≤ q) (wW E tq f q g h pq rq bq z ev li te pa im ++ wM E uq mo)) (hS : va_S (fun q : Nat => s.heap.size ≤ q) s.heap H locs) (kx : (∀ (z' : Fo) (ev' : Ev) (li' : Li) (te' : Te) (pa' : Pa) (im' : Im) (mo' : Mo) (H : Heap) (locs : List Loc), Rel z' ev' li' te' pa' im' mo' → va_P (xD E) vwCl (wW E tq f q g h pq rq bq z' ev' li' te' pa' im' ++ wM E uq mo') H → va_D (fun q : Nat => s.heap.size ≤ q) (wW E tq f q g h pq rq bq z' ev' li' te' pa' im' ++ wM E uq mo') → va_S (fun q : Nat => s.heap.size ≤ q) s.heap H locs → W p l e room_1 s m #[Value.ref b] below meth c H locs 600000 7302250 (lw_Z below #[Value.ref b] s) (F0 m 775 ls []))) : W p l e room_1 s m #[Value.ref b] below meth c H locs 600000 7302250 (lw_Z below #[Value.ref b] s) (F0 m 670 ls []) := by
  obtain ⟨hx, hb, hr, hml, hown, hts, hX, hbl, hlocks, hgv⟩ := id C0
  have hts := fun w h => hts w (wsL_law_in w h)
  have hbA : ¬ (fun q : Nat => s.heap.size ≤ q) b := Nat.not_le.mpr hbl
  have S : CallFix p m c cL_law 4 s #[Value.ref b] wsL_law RL := ⟨hx, hb, hml, hown, hts⟩
  obtain ⟨r, li', mo', hf1, hf2, hRel⟩ := hsim z ev li te pa im mo  hRel
  refine lv_aload_n hx hb dL_law_670 rfl (lv_at hl 1 rfl) ?_
  refine x_mC (pre := []) (post := wM E uq mo) (As := []) (rest := []) S hK (kX5_wipe l E tq f q g h pq rq bq z ev li te pa im hf1) (cwV 0 hts gL_law_X5_wipe rfl rfl rfl (by decide +kernel) ⟨Nat.le_of_ble_eq_true rfl, Nat.le_of_ble_eq_true rfl⟩) hP hD hS rfl 0 rfl rfl rfl rfl hl.1 (Nat.le_of_ble_eq_true rfl) dL_law_671 rfl ⟨Nat.le_refl _, Nat.le_refl _⟩ (fun H locs hP hD hS => ?_)
  have hP : va_P (xD E) vwCl (wW E tq f q g h pq rq bq z ev li' te pa im ++ wM E uq mo) H := hP
  have hD : va_D (fun q : Nat => s.heap.size ≤ q) (wW E tq f q g h pq rq bq z ev li' te pa im ++ wM E uq mo) := hD
  refine lv_aload_n hx hb dL_law_674 rfl (lv_at hl 2 rfl) ?_
  have hP : va_P (xD E) vwCl (wW E tq f q g h pq rq bq z ev li' te pa im ++ (wM E uq mo ++ [])) H := by rw [List.append_nil]; exact hP
  have hD : va_D (fun q : Nat => s.heap.size ≤ q) (wW E tq f q g h pq rq bq z ev li' te pa im ++ (wM E uq mo ++ [])) := by rw [List.append_nil]; exact hD
  refine x_mC (pre := wW E tq f q g h pq rq bq z ev li' te pa im) (post := []) (As := []) (rest := [.int r]) S hK (kX6_wipe l E uq mo hf2) (cwV 0 hts gL_law_X6_wipe rfl rfl rfl (by decide +kernel) ⟨Nat.le_of_ble_eq_true rfl, Nat.le_of_ble_eq_true rfl⟩) hP hD hS rfl 0 rfl rfl rfl rfl hl.1 (Nat.le_of_ble_eq_true rfl) dL_law_675 rfl ⟨Nat.le_refl _, Nat.le_refl _⟩ (fun H locs hP hD hS => ?_)
  have hP : va_P (xD E) vwCl (wW E tq f q g h pq rq bq z ev li' te pa im ++ (wM E uq mo' ++ [])) H := hP
  have hD : va_D (fun q : Nat => s.heap.size ≤ q) (wW E tq f q g h pq rq bq z ev li' te pa im ++ (wM E uq mo' ++ [])) := hD
  rw [List.append_nil] at hP hD
  refine lv_icmp_eq (tgt := 775) hx hb dL_law_678 (by decide) (fun _ => ?_) (fun cn => absurd rfl cn)
  exact kx z ev li' te pa im mo' _ _ hRel hP hD hS
set_option maxHeartbeats 4000000 in
set_option maxRecDepth 100000 in
theorem law_case_place {p : Program} {l : Launch} {e : Env} {s : State} {m : MethodId} {below : List Frame} {meth : Method} {c : Code} {b L : Nat} {xs : Nat → Int32} (hL : L ≤ 2560) (C0 : lw_At p s m meth c b L xs) {E : xG} (hK : xK E s) {tq : Nat → Nat} {f : Nat → Nat} {q : Nat → Nat} {g : Nat → Nat} {h : Nat → Nat} {pq : Nat → Nat} {rq : Nat → Nat → Nat} {bq : Nat → Nat → Nat} {uq : Nat → Nat} (Rel : Fo → Ev → Li → Te → Pa → Im → Mo → Prop) (hsim : Sim_place Rel) {i : Nat} (hi : i + 5 ≤ L) {ls : Array Slot} (hl : lv_has ls 4 [(0, .ref b), (1, .ref (tq 0)), (2, .ref (uq 0)), (3, .int (nI i))]) {z : Fo} {ev : Ev} {li : Li} {te : Te} {pa : Pa} {im : Im} {mo : Mo} {H : Heap} {locs : List Loc} (hRel : Rel z ev li te pa im mo) (hP : va_P (xD E) vwCl (wW E tq f q g h pq rq bq z ev li te pa im ++ wM E uq mo) H) (hD : va_D (fun q : Nat => s.heap.size ≤ q) (wW E tq f q g h pq rq bq z ev li te pa im ++ wM E uq mo)) (hS : va_S (fun q : Nat => s.heap.size ≤ q) s.heap H locs) (kx : (∀ (z' : Fo) (ev' : Ev) (li' : Li) (te' : Te) (pa' : Pa) (im' : Im) (mo' : Mo) (H : Heap) (locs : List Loc), Rel z' ev' li' te' pa' im' mo' → va_P (xD E) vwCl (wW E tq f q g h pq rq bq z' ev' li' te' pa' im' ++ wM E uq mo') H → va_D (fun q : Nat => s.heap.size ≤ q) (wW E tq f q g h pq rq bq z' ev' li' te' pa' im' ++ wM E uq mo') → va_S (fun q : Nat => s.heap.size ≤ q) s.heap H locs → W p l e room_1 s m #[Value.ref b] below meth c H locs 600000 7302250 (lw_Z below #[Value.ref b] s) (F0 m 775 ls []))) : W p l e room_1 s m #[Value.ref b] below meth c H locs 600000 7302250 (lw_Z below #[Value.ref b] s) (F0 m 683 ls []) := by
  obtain ⟨hx, hb, hr, hml, hown, hts, hX, hbl, hlocks, hgv⟩ := id C0
  have hts := fun w h => hts w (wsL_law_in w h)
  have hbA : ¬ (fun q : Nat => s.heap.size ≤ q) b := Nat.not_le.mpr hbl
  have S : CallFix p m c cL_law 4 s #[Value.ref b] wsL_law RL := ⟨hx, hb, hml, hown, hts⟩
  have hi1 : vp_in (nI i + 1) L := x_inS (k := 1) rfl hi hL (by decide)
  obtain ⟨r, hf1, hf2, hRel⟩ := hsim z ev li te pa im mo (xs (nI i + 1).toNatClampNeg) hRel
  refine lv_aload_n hx hb dL_law_683 rfl (lv_at hl 1 rfl) ?_
  refine lv_aload_n hx hb dL_law_684 rfl (lv_at hl 0 rfl) ?_
  refine lv_iload_n hx hb dL_law_685 rfl (lv_at hl 3 rfl) ?_
  refine lv_iconst (v := 1) hx hb dL_law_686 (by decide) ?_
  refine lv_iadd hx hb dL_law_687 ?_
  refine va_sld hx hb hX hbl hbA hS hi1 dL_law_688 ?_
  refine x_pV (As := [.int (xs (nI i + 1).toNatClampNeg)]) (rest := []) S hK (kX5_place l E tq f q g h pq rq bq z ev li te pa im (xs (nI i + 1).toNatClampNeg) hf1) (cwV 1 hts gL_law_X5_place rfl rfl rfl (by decide +kernel) ⟨Nat.le_of_ble_eq_true rfl, Nat.le_of_ble_eq_true rfl⟩) hP.left 0 rfl rfl rfl rfl hl.1 (Nat.le_of_ble_eq_true rfl) dL_law_689 rfl ⟨Nat.le_refl _, Nat.le_refl _⟩ ?_
  refine lv_aload_n hx hb dL_law_692 rfl (lv_at hl 2 rfl) ?_
  refine lv_aload_n hx hb dL_law_693 rfl (lv_at hl 0 rfl) ?_
  refine lv_iload_n hx hb dL_law_694 rfl (lv_at hl 3 rfl) ?_
  refine lv_iconst (v := 1) hx hb dL_law_695 (by decide) ?_
  refine lv_iadd hx hb dL_law_696 ?_
  refine va_sld hx hb hX hbl hbA hS hi1 dL_law_697 ?_
  refine x_pV (As := [.int (xs (nI i + 1).toNatClampNeg)]) (rest := [.int r]) S hK (kX6_place l E uq mo (xs (nI i + 1).toNatClampNeg) hf2) (cwV 1 hts gL_law_X6_place rfl rfl rfl (by decide +kernel) ⟨Nat.le_of_ble_eq_true rfl, Nat.le_of_ble_eq_true rfl⟩) hP.right 0 rfl rfl rfl rfl hl.1 (Nat.le_of_ble_eq_true rfl) dL_law_698 rfl ⟨Nat.le_refl _, Nat.le_refl _⟩ ?_
  refine lv_icmp_eq (tgt := 775) hx hb dL_law_701 (by decide) (fun _ => ?_) (fun cn => absurd rfl cn)
  exact kx z ev li te pa im mo _ _ hRel hP hD hS
set_option maxHeartbeats 4000000 in
set_option maxRecDepth 100000 in
theorem law_case_sign {p : Program} {l : Launch} {e : Env} {s : State} {m : MethodId} {below : List Frame} {meth : Method} {c : Code} {b L : Nat} {xs : Nat → Int32} (hL : L ≤ 2560) (C0 : lw_At p s m meth c b L xs) {E : xG} (hK : xK E s) {tq : Nat → Nat} {f : Nat → Nat} {q : Nat → Nat} {g : Nat → Nat} {h : Nat → Nat} {pq : Nat → Nat} {rq : Nat → Nat → Nat} {bq : Nat → Nat → Nat} {uq : Nat → Nat} (Rel : Fo → Ev → Li → Te → Pa → Im → Mo → Prop) (hsim : Sim_sign Rel) {i : Nat} (hi : i + 5 ≤ L) {ls : Array Slot} (hl : lv_has ls 4 [(0, .ref b), (1, .ref (tq 0)), (2, .ref (uq 0)), (3, .int (nI i))]) {z : Fo} {ev : Ev} {li : Li} {te : Te} {pa : Pa} {im : Im} {mo : Mo} {H : Heap} {locs : List Loc} (hRel : Rel z ev li te pa im mo) (hP : va_P (xD E) vwCl (wW E tq f q g h pq rq bq z ev li te pa im ++ wM E uq mo) H) (hD : va_D (fun q : Nat => s.heap.size ≤ q) (wW E tq f q g h pq rq bq z ev li te pa im ++ wM E uq mo)) (hS : va_S (fun q : Nat => s.heap.size ≤ q) s.heap H locs) (kx : (∀ (z' : Fo) (ev' : Ev) (li' : Li) (te' : Te) (pa' : Pa) (im' : Im) (mo' : Mo) (H : Heap) (locs : List Loc), Rel z' ev' li' te' pa' im' mo' → va_P (xD E) vwCl (wW E tq f q g h pq rq bq z' ev' li' te' pa' im' ++ wM E uq mo') H → va_D (fun q : Nat => s.heap.size ≤ q) (wW E tq f q g h pq rq bq z' ev' li' te' pa' im' ++ wM E uq mo') → va_S (fun q : Nat => s.heap.size ≤ q) s.heap H locs → W p l e room_1 s m #[Value.ref b] below meth c H locs 600000 7302250 (lw_Z below #[Value.ref b] s) (F0 m 775 ls []))) : W p l e room_1 s m #[Value.ref b] below meth c H locs 600000 7302250 (lw_Z below #[Value.ref b] s) (F0 m 706 ls []) := by
  obtain ⟨hx, hb, hr, hml, hown, hts, hX, hbl, hlocks, hgv⟩ := id C0
  have hts := fun w h => hts w (wsL_law_in w h)
  have hbA : ¬ (fun q : Nat => s.heap.size ≤ q) b := Nat.not_le.mpr hbl
  have S : CallFix p m c cL_law 4 s #[Value.ref b] wsL_law RL := ⟨hx, hb, hml, hown, hts⟩
  have hi1 : vp_in (nI i + 1) L := x_inS (k := 1) rfl hi hL (by decide)
  obtain ⟨r, ev', te', mo', hf1, hf2, hRel⟩ := hsim z ev li te pa im mo (xs (nI i + 1).toNatClampNeg) hRel
  refine lv_aload_n hx hb dL_law_706 rfl (lv_at hl 1 rfl) ?_
  refine lv_aload_n hx hb dL_law_707 rfl (lv_at hl 0 rfl) ?_
  refine lv_iload_n hx hb dL_law_708 rfl (lv_at hl 3 rfl) ?_
  refine lv_iconst (v := 1) hx hb dL_law_709 (by decide) ?_
  refine lv_iadd hx hb dL_law_710 ?_
  refine va_sld hx hb hX hbl hbA hS hi1 dL_law_711 ?_
  refine x_mC (pre := []) (post := wM E uq mo) (As := [.int (xs (nI i + 1).toNatClampNeg)]) (rest := []) S hK (kX5_sign l E tq f q g h pq rq bq z ev li te pa im (xs (nI i + 1).toNatClampNeg) hf1) (cwV 1 hts gL_law_X5_sign rfl rfl rfl (by decide +kernel) ⟨Nat.le_of_ble_eq_true rfl, Nat.le_of_ble_eq_true rfl⟩) hP hD hS rfl 0 rfl rfl rfl rfl hl.1 (Nat.le_of_ble_eq_true rfl) dL_law_712 rfl ⟨Nat.le_refl _, Nat.le_refl _⟩ (fun H locs hP hD hS => ?_)
  have hP : va_P (xD E) vwCl (wW E tq f q g h pq rq bq z ev' li te' pa im ++ wM E uq mo) H := hP
  have hD : va_D (fun q : Nat => s.heap.size ≤ q) (wW E tq f q g h pq rq bq z ev' li te' pa im ++ wM E uq mo) := hD
  refine lv_aload_n hx hb dL_law_715 rfl (lv_at hl 2 rfl) ?_
  refine lv_aload_n hx hb dL_law_716 rfl (lv_at hl 0 rfl) ?_
  refine lv_iload_n hx hb dL_law_717 rfl (lv_at hl 3 rfl) ?_
  refine lv_iconst (v := 1) hx hb dL_law_718 (by decide) ?_
  refine lv_iadd hx hb dL_law_719 ?_
  refine va_sld hx hb hX hbl hbA hS hi1 dL_law_720 ?_
  have hP : va_P (xD E) vwCl (wW E tq f q g h pq rq bq z ev' li te' pa im ++ (wM E uq mo ++ [])) H := by rw [List.append_nil]; exact hP
  have hD : va_D (fun q : Nat => s.heap.size ≤ q) (wW E tq f q g h pq rq bq z ev' li te' pa im ++ (wM E uq mo ++ [])) := by rw [List.append_nil]; exact hD
  refine x_mC (pre := wW E tq f q g h pq rq bq z ev' li te' pa im) (post := []) (As := [.int (xs (nI i + 1).toNatClampNeg)]) (rest := [.int r]) S hK (kX6_sign l E uq mo (xs (nI i + 1).toNatClampNeg) hf2) (cwV 1 hts gL_law_X6_sign rfl rfl rfl (by decide +kernel) ⟨Nat.le_of_ble_eq_true rfl, Nat.le_of_ble_eq_true rfl⟩) hP hD hS rfl 0 rfl rfl rfl rfl hl.1 (Nat.le_of_ble_eq_true rfl) dL_law_721 rfl ⟨Nat.le_refl _, Nat.le_refl _⟩ (fun H locs hP hD hS => ?_)
  have hP : va_P (xD E) vwCl (wW E tq f q g h pq rq bq z ev' li te' pa im ++ (wM E uq mo' ++ [])) H := hP
  have hD : va_D (fun q : Nat => s.heap.size ≤ q) (wW E tq f q g h pq rq bq z ev' li te' pa im ++ (wM E uq mo' ++ [])) := hD
  rw [List.append_nil] at hP hD
  refine lv_icmp_eq (tgt := 775) hx hb dL_law_724 (by decide) (fun _ => ?_) (fun cn => absurd rfl cn)
  exact kx z ev' li te' pa im mo' _ _ hRel hP hD hS
set_option maxHeartbeats 4000000 in
set_option maxRecDepth 100000 in
theorem law_case_keep {p : Program} {l : Launch} {e : Env} {s : State} {m : MethodId} {below : List Frame} {meth : Method} {c : Code} {b L : Nat} {xs : Nat → Int32} (hL : L ≤ 2560) (C0 : lw_At p s m meth c b L xs) {E : xG} (hK : xK E s) {tq : Nat → Nat} {f : Nat → Nat} {q : Nat → Nat} {g : Nat → Nat} {h : Nat → Nat} {pq : Nat → Nat} {rq : Nat → Nat → Nat} {bq : Nat → Nat → Nat} {uq : Nat → Nat} (Rel : Fo → Ev → Li → Te → Pa → Im → Mo → Prop) (hsim : Sim_keep Rel) {i : Nat} (hi : i + 5 ≤ L) {ls : Array Slot} (hl : lv_has ls 4 [(0, .ref b), (1, .ref (tq 0)), (2, .ref (uq 0)), (3, .int (nI i))]) {z : Fo} {ev : Ev} {li : Li} {te : Te} {pa : Pa} {im : Im} {mo : Mo} {H : Heap} {locs : List Loc} (hRel : Rel z ev li te pa im mo) (hP : va_P (xD E) vwCl (wW E tq f q g h pq rq bq z ev li te pa im ++ wM E uq mo) H) (hD : va_D (fun q : Nat => s.heap.size ≤ q) (wW E tq f q g h pq rq bq z ev li te pa im ++ wM E uq mo)) (hS : va_S (fun q : Nat => s.heap.size ≤ q) s.heap H locs) (kx : (∀ (z' : Fo) (ev' : Ev) (li' : Li) (te' : Te) (pa' : Pa) (im' : Im) (mo' : Mo) (H : Heap) (locs : List Loc), Rel z' ev' li' te' pa' im' mo' → va_P (xD E) vwCl (wW E tq f q g h pq rq bq z' ev' li' te' pa' im' ++ wM E uq mo') H → va_D (fun q : Nat => s.heap.size ≤ q) (wW E tq f q g h pq rq bq z' ev' li' te' pa' im' ++ wM E uq mo') → va_S (fun q : Nat => s.heap.size ≤ q) s.heap H locs → W p l e room_1 s m #[Value.ref b] below meth c H locs 600000 7302250 (lw_Z below #[Value.ref b] s) (F0 m 775 ls []))) : W p l e room_1 s m #[Value.ref b] below meth c H locs 600000 7302250 (lw_Z below #[Value.ref b] s) (F0 m 729 ls []) := by
  obtain ⟨hx, hb, hr, hml, hown, hts, hX, hbl, hlocks, hgv⟩ := id C0
  have hts := fun w h => hts w (wsL_law_in w h)
  have hbA : ¬ (fun q : Nat => s.heap.size ≤ q) b := Nat.not_le.mpr hbl
  have S : CallFix p m c cL_law 4 s #[Value.ref b] wsL_law RL := ⟨hx, hb, hml, hown, hts⟩
  have hi1 : vp_in (nI i + 1) L := x_inS (k := 1) rfl hi hL (by decide)
  obtain ⟨r, pa', im', mo', hf1, hf2, hRel⟩ := hsim z ev li te pa im mo (xs (nI i + 1).toNatClampNeg) hRel
  refine lv_aload_n hx hb dL_law_729 rfl (lv_at hl 1 rfl) ?_
  refine lv_aload_n hx hb dL_law_730 rfl (lv_at hl 0 rfl) ?_
  refine lv_iload_n hx hb dL_law_731 rfl (lv_at hl 3 rfl) ?_
  refine lv_iconst (v := 1) hx hb dL_law_732 (by decide) ?_
  refine lv_iadd hx hb dL_law_733 ?_
  refine va_sld hx hb hX hbl hbA hS hi1 dL_law_734 ?_
  refine x_mC (pre := []) (post := wM E uq mo) (As := [.int (xs (nI i + 1).toNatClampNeg)]) (rest := []) S hK (kX5_keep l E tq f q g h pq rq bq z ev li te pa im (xs (nI i + 1).toNatClampNeg) hf1) (cwV 1 hts gL_law_X5_keep rfl rfl rfl (by decide +kernel) ⟨Nat.le_of_ble_eq_true rfl, Nat.le_of_ble_eq_true rfl⟩) hP hD hS rfl 0 rfl rfl rfl rfl hl.1 (Nat.le_of_ble_eq_true rfl) dL_law_735 rfl ⟨Nat.le_refl _, Nat.le_refl _⟩ (fun H locs hP hD hS => ?_)
  have hP : va_P (xD E) vwCl (wW E tq f q g h pq rq bq z ev li te pa' im' ++ wM E uq mo) H := hP
  have hD : va_D (fun q : Nat => s.heap.size ≤ q) (wW E tq f q g h pq rq bq z ev li te pa' im' ++ wM E uq mo) := hD
  refine lv_aload_n hx hb dL_law_738 rfl (lv_at hl 2 rfl) ?_
  refine lv_aload_n hx hb dL_law_739 rfl (lv_at hl 0 rfl) ?_
  refine lv_iload_n hx hb dL_law_740 rfl (lv_at hl 3 rfl) ?_
  refine lv_iconst (v := 1) hx hb dL_law_741 (by decide) ?_
  refine lv_iadd hx hb dL_law_742 ?_
  refine va_sld hx hb hX hbl hbA hS hi1 dL_law_743 ?_
  have hP : va_P (xD E) vwCl (wW E tq f q g h pq rq bq z ev li te pa' im' ++ (wM E uq mo ++ [])) H := by rw [List.append_nil]; exact hP
  have hD : va_D (fun q : Nat => s.heap.size ≤ q) (wW E tq f q g h pq rq bq z ev li te pa' im' ++ (wM E uq mo ++ [])) := by rw [List.append_nil]; exact hD
  refine x_mC (pre := wW E tq f q g h pq rq bq z ev li te pa' im') (post := []) (As := [.int (xs (nI i + 1).toNatClampNeg)]) (rest := [.int r]) S hK (kX6_keep l E uq mo (xs (nI i + 1).toNatClampNeg) hf2) (cwV 1 hts gL_law_X6_keep rfl rfl rfl (by decide +kernel) ⟨Nat.le_of_ble_eq_true rfl, Nat.le_of_ble_eq_true rfl⟩) hP hD hS rfl 0 rfl rfl rfl rfl hl.1 (Nat.le_of_ble_eq_true rfl) dL_law_744 rfl ⟨Nat.le_refl _, Nat.le_refl _⟩ (fun H locs hP hD hS => ?_)
  have hP : va_P (xD E) vwCl (wW E tq f q g h pq rq bq z ev li te pa' im' ++ (wM E uq mo' ++ [])) H := hP
  have hD : va_D (fun q : Nat => s.heap.size ≤ q) (wW E tq f q g h pq rq bq z ev li te pa' im' ++ (wM E uq mo' ++ [])) := hD
  rw [List.append_nil] at hP hD
  refine lv_icmp_eq (tgt := 775) hx hb dL_law_747 (by decide) (fun _ => ?_) (fun cn => absurd rfl cn)
  exact kx z ev li te pa' im' mo' _ _ hRel hP hD hS
set_option maxHeartbeats 4000000 in
set_option maxRecDepth 100000 in
theorem law_case_goBack {p : Program} {l : Launch} {e : Env} {s : State} {m : MethodId} {below : List Frame} {meth : Method} {c : Code} {b L : Nat} {xs : Nat → Int32} (hL : L ≤ 2560) (C0 : lw_At p s m meth c b L xs) {E : xG} (hK : xK E s) {tq : Nat → Nat} {f : Nat → Nat} {q : Nat → Nat} {g : Nat → Nat} {h : Nat → Nat} {pq : Nat → Nat} {rq : Nat → Nat → Nat} {bq : Nat → Nat → Nat} {uq : Nat → Nat} (Rel : Fo → Ev → Li → Te → Pa → Im → Mo → Prop) (hsim : Sim_goBack Rel) {i : Nat} (hi : i + 5 ≤ L) {ls : Array Slot} (hl : lv_has ls 4 [(0, .ref b), (1, .ref (tq 0)), (2, .ref (uq 0)), (3, .int (nI i))]) {z : Fo} {ev : Ev} {li : Li} {te : Te} {pa : Pa} {im : Im} {mo : Mo} {H : Heap} {locs : List Loc} (hRel : Rel z ev li te pa im mo) (hP : va_P (xD E) vwCl (wW E tq f q g h pq rq bq z ev li te pa im ++ wM E uq mo) H) (hD : va_D (fun q : Nat => s.heap.size ≤ q) (wW E tq f q g h pq rq bq z ev li te pa im ++ wM E uq mo)) (hS : va_S (fun q : Nat => s.heap.size ≤ q) s.heap H locs) (kx : (∀ (z' : Fo) (ev' : Ev) (li' : Li) (te' : Te) (pa' : Pa) (im' : Im) (mo' : Mo) (H : Heap) (locs : List Loc), Rel z' ev' li' te' pa' im' mo' → va_P (xD E) vwCl (wW E tq f q g h pq rq bq z' ev' li' te' pa' im' ++ wM E uq mo') H → va_D (fun q : Nat => s.heap.size ≤ q) (wW E tq f q g h pq rq bq z' ev' li' te' pa' im' ++ wM E uq mo') → va_S (fun q : Nat => s.heap.size ≤ q) s.heap H locs → W p l e room_1 s m #[Value.ref b] below meth c H locs 600000 7302250 (lw_Z below #[Value.ref b] s) (F0 m 775 ls []))) : W p l e room_1 s m #[Value.ref b] below meth c H locs 600000 7302250 (lw_Z below #[Value.ref b] s) (F0 m 752 ls []) := by
  obtain ⟨hx, hb, hr, hml, hown, hts, hX, hbl, hlocks, hgv⟩ := id C0
  have hts := fun w h => hts w (wsL_law_in w h)
  have hbA : ¬ (fun q : Nat => s.heap.size ≤ q) b := Nat.not_le.mpr hbl
  have S : CallFix p m c cL_law 4 s #[Value.ref b] wsL_law RL := ⟨hx, hb, hml, hown, hts⟩
  have hi1 : vp_in (nI i + 1) L := x_inS (k := 1) rfl hi hL (by decide)
  obtain ⟨r, z', ev', li', pa', mo', hf1, hf2, hRel⟩ := hsim z ev li te pa im mo (xs (nI i + 1).toNatClampNeg) hRel
  refine lv_aload_n hx hb dL_law_752 rfl (lv_at hl 1 rfl) ?_
  refine lv_aload_n hx hb dL_law_753 rfl (lv_at hl 0 rfl) ?_
  refine lv_iload_n hx hb dL_law_754 rfl (lv_at hl 3 rfl) ?_
  refine lv_iconst (v := 1) hx hb dL_law_755 (by decide) ?_
  refine lv_iadd hx hb dL_law_756 ?_
  refine va_sld hx hb hX hbl hbA hS hi1 dL_law_757 ?_
  refine x_mC (pre := []) (post := wM E uq mo) (As := [.int (xs (nI i + 1).toNatClampNeg)]) (rest := []) S hK (kX5_goBack l E tq f q g h pq rq bq z ev li te pa im (xs (nI i + 1).toNatClampNeg) hf1) (cwV 1 hts gL_law_X5_goBack rfl rfl rfl (by decide +kernel) ⟨Nat.le_of_ble_eq_true rfl, Nat.le_of_ble_eq_true rfl⟩) hP hD hS rfl 0 rfl rfl rfl rfl hl.1 (Nat.le_of_ble_eq_true rfl) dL_law_758 rfl ⟨Nat.le_refl _, Nat.le_refl _⟩ (fun H locs hP hD hS => ?_)
  have hP : va_P (xD E) vwCl (wW E tq f q g h pq rq bq z' ev' li' te pa' im ++ wM E uq mo) H := hP
  have hD : va_D (fun q : Nat => s.heap.size ≤ q) (wW E tq f q g h pq rq bq z' ev' li' te pa' im ++ wM E uq mo) := hD
  refine lv_aload_n hx hb dL_law_761 rfl (lv_at hl 2 rfl) ?_
  refine lv_aload_n hx hb dL_law_762 rfl (lv_at hl 0 rfl) ?_
  refine lv_iload_n hx hb dL_law_763 rfl (lv_at hl 3 rfl) ?_
  refine lv_iconst (v := 1) hx hb dL_law_764 (by decide) ?_
  refine lv_iadd hx hb dL_law_765 ?_
  refine va_sld hx hb hX hbl hbA hS hi1 dL_law_766 ?_
  have hP : va_P (xD E) vwCl (wW E tq f q g h pq rq bq z' ev' li' te pa' im ++ (wM E uq mo ++ [])) H := by rw [List.append_nil]; exact hP
  have hD : va_D (fun q : Nat => s.heap.size ≤ q) (wW E tq f q g h pq rq bq z' ev' li' te pa' im ++ (wM E uq mo ++ [])) := by rw [List.append_nil]; exact hD
  refine x_mC (pre := wW E tq f q g h pq rq bq z' ev' li' te pa' im) (post := []) (As := [.int (xs (nI i + 1).toNatClampNeg)]) (rest := [.int r]) S hK (kX6_goBack l E uq mo (xs (nI i + 1).toNatClampNeg) hf2) (cwV 1 hts gL_law_X6_goBack rfl rfl rfl (by decide +kernel) ⟨Nat.le_of_ble_eq_true rfl, Nat.le_of_ble_eq_true rfl⟩) hP hD hS rfl 0 rfl rfl rfl rfl hl.1 (Nat.le_of_ble_eq_true rfl) dL_law_767 rfl ⟨Nat.le_refl _, Nat.le_refl _⟩ (fun H locs hP hD hS => ?_)
  have hP : va_P (xD E) vwCl (wW E tq f q g h pq rq bq z' ev' li' te pa' im ++ (wM E uq mo' ++ [])) H := hP
  have hD : va_D (fun q : Nat => s.heap.size ≤ q) (wW E tq f q g h pq rq bq z' ev' li' te pa' im ++ (wM E uq mo' ++ [])) := hD
  rw [List.append_nil] at hP hD
  refine lv_icmp_eq (tgt := 775) hx hb dL_law_770 (by decide) (fun _ => ?_) (fun cn => absurd rfl cn)
  exact kx z' ev' li' te pa' im mo' _ _ hRel hP hD hS
