/-! ===== new T[n][m], of this claim's own: the machine's entry, the state that it leaves, the step ===== -/
def va_AOA (ty : FieldType) (U : State) : Prop := (Cond.arrayOver (.array ty)).before #[] U = true
theorem va_AOA.use {ty : FieldType} {A : Array Value} {U : State} (h : va_AOA ty U) : (Cond.arrayOver (.array ty)).before A U = true := h
theorem va_AOA.of {ty : FieldType} {A : Array Value} {U : State} (h : (Cond.arrayOver (.array ty)).before A U = true) : va_AOA ty U := h
/-- the row's class o, the outer array's class c over it -/
theorem va_AOA.found {ty : FieldType} {U : State} (h : va_AOA ty U) : ∃ o c k, U.vm.findClass (FieldType.array ty).toString = some o ∧ U.vm.classes[c]? = some k ∧ k.kind = .array o (.array ty) ∧ U.vm.findClass ("[" ++ (FieldType.array ty).toString) = some c := by
  simp only [va_AOA, Cond.before, Cond.holds, Cond.value, beq_iff_eq, Option.bind_eq_some_iff, Option.map_eq_some_iff] at h
  obtain ⟨o, ho, c, hi, k, hk, hv⟩ := h
  have hp := (Array.findIdx?_eq_some_iff_getElem.mp hi).2.1
  rw [(Array.getElem?_eq_some_iff.mp hk).2] at hp
  cases hkd : k.kind with
  | array q t =>
    rw [hkd] at hv hp
    simp only [Bool.and_eq_true, decide_eq_true_eq] at hv
    have hqo : q = o := by simpa using hp
    exact ⟨o, c, k, ho, hk, by rw [hkd, hv.1, hqo], hv.2⟩
  | _ => rw [hkd] at hv; simp at hv
theorem va_AOA.moved {ty : FieldType} {u U : State} (hvm : u.vm.Alike U.vm) (h : va_AOA ty u) : va_AOA ty U := by
  simp only [va_AOA, Cond.before, Cond.holds, Cond.value, beq_iff_eq, Option.bind_eq_some_iff, Option.map_eq_some_iff] at h ⊢
  obtain ⟨comp, hc, c, hi, k, hk, hv⟩ := h
  obtain ⟨k', hk', ek⟩ := hvm.2.2 c k hk
  refine ⟨comp, by rw [hvm.findClass]; exact hc, c, (hvm.findIdx_congr _ (fun _ _ _ _ => rfl)).trans hi, k', hk', ?_⟩
  rw [show k'.kind = k.kind by rw [ek], hvm.findClass]
  exact hv
/-- a row -/
def mu_r (o : ClassId) (K : Nat) (v : Value) : Cell := { cls := o, slots := Array.replicate K v, vm := .none }
/-- the outer array, i of its rows laid behind the address h -/
def mu_o (cA : ClassId) (N h : Nat) : Nat → Cell
  | 0 => mu_r cA N .null
  | i + 1 => (mu_o cA N h i).setSlot i (.ref (h + 1 + i))
/-- the state with it -/
def mu_s (S : State) (cA : ClassId) (N : Nat) (row : Cell) : Nat → State
  | 0 => S.pushCell (mu_o cA N S.heap.size 0)
  | i + 1 => ((mu_s S cA N row i).pushCell row).setCell S.heap.size (mu_o cA N S.heap.size (i + 1))
theorem mu_o_is (cA : ClassId) (N h : Nat) : ∀ i, (mu_o cA N h i).cls = cA ∧ (mu_o cA N h i).vm = .none ∧ (mu_o cA N h i).slots.size = N
  | 0 => ⟨rfl, rfl, Array.size_replicate⟩
  | i + 1 => by
    obtain ⟨a, b, d⟩ := mu_o_is cA N h i
    exact ⟨a, b, Array.size_setIfInBounds.trans d⟩
theorem mu_s_is (S : State) (cA : ClassId) (N : Nat) (row : Cell) : ∀ i, (mu_s S cA N row i).vm = S.vm ∧ (mu_s S cA N row i).heap.size = S.heap.size + 1 + i ∧ (mu_s S cA N row i).heap[S.heap.size]? = some (mu_o cA N S.heap.size i) ∧ (mu_s S cA N row i).slotsUsed = S.slotsUsed + (N + i * row.slots.size)
  | 0 => ⟨rfl, by simp [mu_s], by simp [mu_s], by simp [mu_s, (mu_o_is cA N S.heap.size 0).2.2]⟩
  | i + 1 => by
    obtain ⟨a, b, d, f⟩ := mu_s_is S cA N row i
    refine ⟨a, ?_, ?_, ?_⟩
    · simp [mu_s, b]
      omega
    · simp [mu_s, Array.getElem?_setIfInBounds, b]
      omega
    · simp [mu_s, f, Nat.add_mul]
      omega
theorem mu_s_old (S : State) (cA : ClassId) (N : Nat) (row : Cell) {a : Nat} (ha : a < S.heap.size) : ∀ i, (mu_s S cA N row i).heap[a]? = S.heap[a]?
  | 0 => by simp [mu_s, Array.getElem?_push, Nat.ne_of_lt ha]
  | i + 1 => by
    have b := (mu_s_is S cA N row i).2.1
    rw [← mu_s_old S cA N row ha i]
    simp only [mu_s, State.heap_setCell, State.heap_pushCell]
    rw [Array.getElem?_setIfInBounds_ne (Nat.ne_of_gt ha), Array.getElem?_push, if_neg (by omega)]
theorem mu_s_row (S : State) (cA : ClassId) (N : Nat) (row : Cell) : ∀ i j, j < i → (mu_s S cA N row i).heap[S.heap.size + 1 + j]? = some row
  | 0, j, h => absurd h (Nat.not_lt_zero j)
  | i + 1, j, h => by
    have b := (mu_s_is S cA N row i).2.1
    simp only [mu_s, State.heap_setCell, State.heap_pushCell]
    rw [Array.getElem?_setIfInBounds_ne (by omega), Array.getElem?_push, b]
    by_cases e : j = i
    · rw [if_pos (by omega)]
    · rw [if_neg (by omega)]
      exact mu_s_row S cA N row i j (by omega)
theorem mu_s_top (S : State) (g : JFrame) (cA : ClassId) (N : Nat) (row : Cell) : ∀ i, mu_s (S.setTop g) cA N row i = (mu_s S cA N row i).setTop g
  | 0 => rfl
  | i + 1 => by
    simp only [mu_s, mu_s_top S g cA N row i]
    rfl
theorem mu_new {E : CtlPost} {e : Env} {d : Bool} {acts : List Action} {S : State} {Q : Addr → Pre} {cA o : ClassId} {kA : Class} {t : FieldType} {N : Nat} {v : Value}
    (hk : S.vm.classes[cA]? = some kA) (hkd : kA.kind = .array o t) (hf : fits t v = true)
    (h1 : N ≤ e.platform.arrayLengthLimit) (h2 : N * componentBytes t ≤ e.platform.maxHeapBytes)
    (h3 : S.heap.size < e.platform.maxCells) (h4 : S.slotsUsed + N ≤ e.platform.maxSlots)
    (hq : ∀ d' acts', Q S.heap.size d' acts' (S.pushCell (mu_r cA N v))) :
    wp (Jvm.newArray cA N v) Q E e d acts S := by
  have hfit : ∀ i w, (Array.replicate N v)[i]? = some w → S.fitsSlot cA .none i w = true := by
    intro i w hw
    rw [Array.getElem?_replicate] at hw
    split at hw
    · cases hw
      simp [State.fitsSlot, State.slotType?, hk, hkd, hf]
    · cases hw
  simp only [Jvm.newArray, Jvm.arrayFits, wp_bind', W.ask, W.ite, Nat.not_lt.mpr h1, gt_iff_lt, if_false, wp_pure', W.theClass, hk, hkd, Option.some.injEq, exists_eq_left', Nat.not_lt.mpr h2, Nat.not_lt.mpr (Nat.le_trans (Nat.le_add_left N S.slotsUsed) h4), W.alloc, Array.size_replicate]
  exact ⟨h3, h4, hfit, hq _ _⟩
theorem mu_make1 {E : CtlPost} {e : Env} {d : Bool} {acts : List Action} {S : State} {Q : Addr → Pre} {o w : ClassId} {kO : Class} {t : FieldType} {k : Int32}
    (hO : S.vm.classes[o]? = some kO) (hkO : kO.kind = .array w t) (hk : ¬ k < 0) (hf : fits t (defaultValue t) = true)
    (h1 : k.toNatClampNeg ≤ e.platform.arrayLengthLimit) (h2 : k.toNatClampNeg * componentBytes t ≤ e.platform.maxHeapBytes)
    (h3 : S.heap.size < e.platform.maxCells) (h4 : S.slotsUsed + k.toNatClampNeg ≤ e.platform.maxSlots)
    (hq : ∀ d' acts', Q S.heap.size d' acts' (S.pushCell (mu_r o k.toNatClampNeg (defaultValue t)))) :
    wp (Jvm.Op.multianewarray.make o [k]) Q E e d acts S := by
  simp only [Jvm.Op.multianewarray.make, wp_bind', W.ite, hk, if_false, wp_pure', W.theClass, hO, hkO, Option.some.injEq, exists_eq_left']
  exact mu_new hO hkO hf h1 h2 h3 h4 hq
theorem mu_rows {E : CtlPost} {e : Env} {S : State} {Q : PUnit → Pre} {cA o w : ClassId} {kA kO : Class} {ta t : FieldType} {N : Nat} {k : Int32}
    (hA : S.vm.classes[cA]? = some kA) (hkA : kA.kind = .array o ta) (hra : ∀ a : Addr, fits ta (.ref a) = true) (hO : S.vm.classes[o]? = some kO) (hkO : kO.kind = .array w t) (hk : ¬ k < 0) (hf : fits t (defaultValue t) = true)
    (h1 : k.toNatClampNeg ≤ e.platform.arrayLengthLimit) (h2 : k.toNatClampNeg * componentBytes t ≤ e.platform.maxHeapBytes)
    (h3 : S.heap.size + (1 + N) ≤ e.platform.maxCells) (h4 : S.slotsUsed + (N + N * k.toNatClampNeg) ≤ e.platform.maxSlots)
    (hq : ∀ d' acts', Q PUnit.unit d' acts' (mu_s S cA N (mu_r o k.toNatClampNeg (defaultValue t)) N)) :
    ∀ (r i : Nat) (d : Bool) (acts : List Action), i + r = N → wp (forIn (List.range' i r) PUnit.unit (fun j _ => do
      let x ← Jvm.Op.multianewarray.make o [k]
      Jvm.writeLoc S.heap.size j (.ref x)
      Pure.pure (ForInStep.yield PUnit.unit))) Q E e d acts (mu_s S cA N (mu_r o k.toNatClampNeg (defaultValue t)) i)
  | 0, i, d, acts, h => by
    rw [List.range'_zero, List.forIn_nil, wp_pure', show i = N by omega]
    exact hq _ _
  | r + 1, i, d, acts, h => by
    obtain ⟨a, b, f, u⟩ := mu_s_is S cA N (mu_r o k.toNatClampNeg (defaultValue t)) i
    obtain ⟨c1, c2, c3⟩ := mu_o_is cA N S.heap.size i
    have hsz : (mu_r o k.toNatClampNeg (defaultValue t)).slots.size = k.toNatClampNeg := Array.size_replicate
    rw [hsz] at u
    have hik : i * k.toNatClampNeg + k.toNatClampNeg ≤ N * k.toNatClampNeg := by
      rw [← Nat.succ_mul]
      exact Nat.mul_le_mul_right _ (by omega)
    have ih := mu_rows (E := E) (Q := Q) hA hkA hra hO hkO hk hf h1 h2 h3 h4 hq r (i + 1)
    rw [List.range'_succ, List.forIn_cons]
    rw [wp_bind', wp_bind']
    refine mu_make1 (by rw [a]; exact hO) hkO hk hf h1 h2 (by omega) (by omega) (fun d' acts' => ?_)
    rw [wp_bind', W.writeLoc]
    refine ⟨mu_o cA N S.heap.size i, ?_, by rw [c2]; exact (fun h => by cases h), by rw [c3]; omega, ?_, ?_⟩
    · rw [State.heap_pushCell, Array.getElem?_push, if_neg (by omega)]
      exact f
    · rw [c1, c2]
      simp [State.fitsSlot, State.slotType?, a, hA, hkA, hra]
    · rw [b, wp_pure']
      exact ih _ _ (by omega)
theorem mu_make {E : CtlPost} {e : Env} {d : Bool} {acts : List Action} {S : State} {Q : Addr → Pre} {cA o w : ClassId} {kA kO : Class} {ta t : FieldType} {n k : Int32}
    (hA : S.vm.classes[cA]? = some kA) (hkA : kA.kind = .array o ta) (hna : fits ta .null = true) (hra : ∀ a : Addr, fits ta (.ref a) = true) (hO : S.vm.classes[o]? = some kO) (hkO : kO.kind = .array w t) (hn : ¬ n < 0) (hk : ¬ k < 0) (hf : fits t (defaultValue t) = true)
    (g1 : n.toNatClampNeg ≤ e.platform.arrayLengthLimit) (g2 : n.toNatClampNeg * componentBytes ta ≤ e.platform.maxHeapBytes)
    (h1 : k.toNatClampNeg ≤ e.platform.arrayLengthLimit) (h2 : k.toNatClampNeg * componentBytes t ≤ e.platform.maxHeapBytes)
    (h3 : S.heap.size + (1 + n.toNatClampNeg) ≤ e.platform.maxCells) (h4 : S.slotsUsed + (n.toNatClampNeg + n.toNatClampNeg * k.toNatClampNeg) ≤ e.platform.maxSlots)
    (hq : ∀ d' acts', Q S.heap.size d' acts' (mu_s S cA n.toNatClampNeg (mu_r o k.toNatClampNeg (defaultValue t)) n.toNatClampNeg)) :
    wp (Jvm.Op.multianewarray.make cA [n, k]) Q E e d acts S := by
  unfold Jvm.Op.multianewarray.make
  simp only [wp_bind', W.ite, hn, if_false, wp_pure', W.theClass, hA, hkA, Option.some.injEq, exists_eq_left']
  refine mu_new hA hkA hna g1 g2 (by omega) (by omega) (fun d' acts' => ?_)
  have hfind : List.find? (fun x : Int32 => decide (x < 0)) [k] = none := by simp [hk]
  simp only [hfind, ite_self, Std.Legacy.Range.forIn_eq_forIn_range', Std.Legacy.Range.size, wp_bind', wp_pure']
  rw [show (n.toNatClampNeg - 0 + 1 - 1) / 1 = n.toNatClampNeg by omega]
  exact mu_rows hA hkA hra hO hkO hk hf h1 h2 h3 h4 (fun d2 acts2 => by rw [wp_pure']; exact hq d2 acts2) n.toNatClampNeg 0 d' acts' (by omega)
/-- the walk stands where all the rows are laid -/
theorem mu_stands {p : Program} {l : Launch} {e : Env} {R : Room} {s : State} {m : MethodId} {args : Array Value} {below : List Frame} {meth : Method} {c : Code} {T : State} {locs : List Loc} {cells slots : Nat} (X : Stand p l e R s m args below meth c T locs cells slots) (cA : ClassId) (N : Nat) (row : Cell) :
    ∀ i, Stand p l e R s m args below meth c (mu_s T cA N row i) locs (cells + 1 + i) (slots + N + i * row.slots.size)
  | 0 => by
    have h := X.pushed (mu_o cA N T.heap.size 0)
    rw [(mu_o_is cA N T.heap.size 0).2.2] at h
    rw [Nat.zero_mul]
    exact h
  | i + 1 => by
    obtain ⟨-, b, f, -⟩ := mu_s_is T cA N row i
    have h := (mu_stands X cA N row i).pushed row
    have hc : ((mu_s T cA N row i).pushCell row).heap[T.heap.size]? = some (mu_o cA N T.heap.size i) := by
      rw [State.heap_pushCell, Array.getElem?_push, if_neg (by omega)]
      exact f
    have h2 := (h.stored hc i (.ref (T.heap.size + 1 + i))).dropFresh (fun x hx => by
      rw [List.mem_singleton.mp hx]
      exact X.heapGrown)
    rw [Nat.succ_mul, ← Nat.add_assoc (slots + N)]
    exact h2
theorem mu_sem {E : CtlPost} {e : Env} {d : Bool} {acts : List Action} {S : State} {g : JFrame} {index : Nat} {Q : Unit → Pre} {cA o w : ClassId} {kA kO : Class} {ta t : FieldType} {n k : Int32} {rest : List Value}
    (hs : S.topJava?.isSome) (hr : S.vm.classReady g.method.cls index cA) (hstack : g.stack = .int k :: .int n :: rest)
    (hA : S.vm.classes[cA]? = some kA) (hkA : kA.kind = .array o ta) (hna : fits ta .null = true) (hra : ∀ a : Addr, fits ta (.ref a) = true) (hO : S.vm.classes[o]? = some kO) (hkO : kO.kind = .array w t) (hn : ¬ n < 0) (hk : ¬ k < 0) (hf : fits t (defaultValue t) = true)
    (g1 : n.toNatClampNeg ≤ e.platform.arrayLengthLimit) (g2 : n.toNatClampNeg * componentBytes ta ≤ e.platform.maxHeapBytes)
    (h1 : k.toNatClampNeg ≤ e.platform.arrayLengthLimit) (h2 : k.toNatClampNeg * componentBytes t ≤ e.platform.maxHeapBytes)
    (h3 : S.heap.size + (1 + n.toNatClampNeg) ≤ e.platform.maxCells) (h4 : S.slotsUsed + (n.toNatClampNeg + n.toNatClampNeg * k.toNatClampNeg) ≤ e.platform.maxSlots)
    (hq : ∀ d' acts', Q () d' acts' ((mu_s S cA n.toNatClampNeg (mu_r o k.toNatClampNeg (defaultValue t)) n.toNatClampNeg).setTop { g with stack := .ref S.heap.size :: rest })) :
    wp (Jvm.Op.multianewarray.sem index 2) Q E e d acts (S.setTop g) := by
  have top : ∀ i (f : JFrame), ((mu_s S cA n.toNatClampNeg (mu_r o k.toNatClampNeg (defaultValue t)) i).setTop f).topJava? = some f := fun i f => by
    refine State.topJava?_setTop' _ ?_
    induction i with
    | zero => exact hs
    | succ i ih => exact ih
  simp only [Jvm.Op.multianewarray.sem, wp_bind', W.resolveClassAt_ready (State.method?_setTop g hs) hr]
  rw [W.popN, if_neg (by decide)]
  refine ⟨g, State.topJava?_setTop' _ hs, [.int n, .int k], rest, rfl, hstack, ?_⟩
  simp only [List.mapM_cons, List.mapM_nil, wp_bind', wp_pure', State.setTop_setTop]
  refine mu_make (S := S.setTop { g with stack := rest }) hA hkA hna hra hO hkO hn hk hf g1 g2 h1 h2 h3 h4 (fun d' acts' => ?_)
  rw [wp_bind', W.mark, mu_s_top, W.pushRef]
  refine ⟨_, top _ _, ?_⟩
  rw [State.setTop_setTop]
  exact hq _ _
theorem mu_cold {E : CtlPost} {e : Env} {d : Bool} {acts : List Action} {S : State} {g : JFrame} {index c : Nat} {vm' : Vm} {Q : Unit → Pre} (hs : S.topJava?.isSome) (hg : (Jvm.resolveClass g.method.cls index).Gives e.toSetting S.vm (.ok c) vm') (hr : vm'.classReady g.method.cls index c)
    (hsz : vm'.classes.size ≤ S.vm.classes.size) (h : wp (Jvm.Op.multianewarray.sem index 2) Q E e d acts ((S.setVm vm').setTop g)) : wp (Jvm.Op.multianewarray.sem index 2) Q E e d acts (S.setTop g) := by
  simp only [Jvm.Op.multianewarray.sem, wp_bind'] at h ⊢
  exact (W.resolveClassAt_transfer (s := S.setTop g) (State.method?_setTop g hs) hg hr hsz).mpr h
theorem mu_step {p : Program} {l : Launch} {e : Env} {R : Room} {s : State} {m : MethodId} {args : Array Value} {below : List Frame} {meth : Method} {c : Code} {T : State} {locs : List Loc} {cells slots : Nat} (X : Stand p l e R s m args below meth c T locs cells slots) (hexec : p.tables.exec = Jvm.exec) {own : String} {index : Nat} {ty : FieldType}
    (hown : s.vm.findClass own = some m.cls) (hclink : (Cond.classLink own index ("[" ++ (FieldType.array ty).toString)).before args s = true) (hover : va_AOA ty s) (harr : (Cond.arrayClass ty).before args s = true)
    {g : JFrame} (hg : g.method = m) (hdg : decode c.code g.pc = .ok (.multianewarray index 2, 4)) {n k : Int32} {rest : List Value} (hstack : g.stack = .int k :: .int n :: rest) (hn : ¬ n < 0) (hk : ¬ k < 0)
    (hb1 : n.toNatClampNeg * 4 ≤ 536870912) (hb2 : k.toNatClampNeg * componentBytes ty ≤ 536870912) (hb3 : k.toNatClampNeg ≤ 536870912) (hdf : fits ty (defaultValue ty) = true)
    (hcells : cells + (1 + n.toNatClampNeg) ≤ R.cells) (hslots : slots + (n.toNatClampNeg + n.toNatClampNeg * k.toNatClampNeg) ≤ R.slots) :
    ∃ (vm₁ : Vm) (cA o : ClassId) (kA : Class), s.vm.findClass ("[" ++ (FieldType.array ty).toString) = some cA ∧ s.vm.findClass (FieldType.array ty).toString = some o ∧ s.vm.classes[cA]? = some kA ∧ kA.kind = .array o (.array ty) ∧
      Stand p l e R s m args below meth c (mu_s (T.setVm vm₁) cA n.toNatClampNeg (mu_r o k.toNatClampNeg (defaultValue ty)) n.toNatClampNeg) locs (cells + 1 + n.toNatClampNeg) (slots + n.toNatClampNeg + n.toNatClampNeg * k.toNatClampNeg) ∧
      ∀ target, Steps p.tables e below ((mu_s (T.setVm vm₁) cA n.toNatClampNeg (mu_r o k.toNatClampNeg (defaultValue ty)) n.toNatClampNeg).setTop { g with pc := g.pc + 4, stack := .ref T.heap.size :: rest }) target →
        Steps p.tables e below (T.setTop g) target := by
  subst hg
  have hpl : e.platform.magicAccessors = ({} : Platform).magicAccessors := by rw [X.admits.platform]
  obtain ⟨o, cA, kA, ho, hA, hkA, hcA⟩ := hover.found
  obtain ⟨cO, kO, w, hcO, hO, hkO⟩ := Cond.arrayClass_spec harr
  cases ho.symm.trans hcO
  obtain ⟨cc, hfcc, hcl⟩ := Cond.classLink_spec hown hclink e.platform hpl
  cases hcA.symm.trans hfcc
  obtain ⟨hg₁, hwarm₁, hready₁⟩ := State.classEntry (e := e) X.warmed hcl
  generalize T.vm.noted g.method.cls index (.cls cA) = vm₁ at hg₁ hwarm₁ hready₁
  have hsz₁ : T.vm.classes.size = vm₁.classes.size := X.warmed.alike.2.1.trans hwarm₁.alike.2.1.symm
  obtain ⟨kA₁, hA₁, eA⟩ := hwarm₁.alike.2.2 _ _ hA
  obtain ⟨kO₁, hO₁, eO⟩ := hwarm₁.alike.2.2 _ _ hO
  have X₁ := X.noted hwarm₁
  have X₂ := mu_stands X₁ cA n.toNatClampNeg (mu_r o k.toNatClampNeg (defaultValue ty)) n.toNatClampNeg
  rw [show (mu_r o k.toNatClampNeg (defaultValue ty)).slots.size = k.toNatClampNeg from Array.size_replicate] at X₂
  obtain ⟨hr1, hr2⟩ := X₁.roomAbove hcells hslots
  refine ⟨vm₁, cA, o, kA, hcA, ho, hA, hkA, X₂, fun target hrest => ?_⟩
  have l1 := Launch.admits_arrayLengthLimit X.admits
  have l2 := Launch.admits_maxHeapBytes X.admits
  refine Steps.instr (c := _) (by simpa using X.here) ?_
  simp [jvm, wpRun, exec, X.here.top, hexec, hdg]
  refine mu_cold X.here.top hg₁ hready₁ (by rw [← hsz₁]; exact Nat.le_refl _) (mu_sem (S := T.setVm vm₁) (kA := kA₁) (kO := kO₁) (t := ty) X.here.top hready₁ hstack hA₁ (by rw [eA]; exact hkA) rfl (fun _ => rfl) hO₁ (by rw [eO]; exact hkO) hn hk hdf (by rw [l1]; omega) (by rw [l2]; exact hb1) (by rw [l1]; omega) (by rw [l2]; exact hb2) hr1 hr2 (fun d' acts' acts2 => ?_))
  simp [jvm, X₂.here.top]
  exact hrest
