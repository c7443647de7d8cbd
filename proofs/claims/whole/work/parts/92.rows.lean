/-! Rows of rows. -/
theorem Sim.more {w : Wd} {s : State} {H H' : Heap} {h g : hp} {c : Nat} (S : Sim w s H h) (b5 : ∀ r, r < hN h → hK g r = hK h r ∧ ∀ j, hI g r j = hI h r j ∧ hL g r j = hL h r j ∧ hR g r j = hR h r j) (b1 : hN g = hN h + c) (e2 : H'.size = H.size + c) (e3 : ∀ q, q < H.size → H'[q]? = H[q]?) (hc : ∀ r, hN h ≤ r → r < hN g → cOK w s H' g r) : Sim w s H' g := by
  obtain ⟨k1, k2, k3, k4, k5⟩ := S
  refine ⟨by omega, by omega, fun r r1 r2 => ?_, fun q hq => by rw [e3 q (by omega)]; exact k4 q hq, k5⟩
  by_cases e : hN h ≤ r
  · exact hc r e r2
  · have hr : r < hN h := by omega
    refine cOK.kept (e3 _ ?_) ((k3 r r1 hr).same (b5 r hr))
    unfold adr
    split
    · have := k5 r (by assumption); omega
    · omega
theorem mz_n1 (q : ClassId) : VmData.none ≠ VmData.statics q := fun h => by cases h
theorem mz_n2 : VmData.none ≠ VmData.unknown := fun h => by cases h
theorem mz_run {tb : Tables} [Ours tb] {e : Env} {below : List Frame} {s : State} {f : JFrame} {c : Code} {i : Instr} {len : Nat} {P : State → Prop} (h : At s f.method c below)
    (hd : decode c.code f.pc = .ok (i, len)) (hw : wpRun (tb.exec i) (fun _ s₁ _ => P s₁) (fun _ _ _ => False) e (s.setTop f)) :
    ∃ s₁ acts, P s₁ ∧ ∀ target, Steps tb e below (afterInstr e len (.ok () s₁ acts)).1 target → Steps tb e below (s.setTop f) target := by
  have hw := (wpRun_iff_run _ _ _ _ _).mp hw
  cases hr : (tb.exec i).run e (s.setTop f) with
  | ok a s₁ acts =>
    rw [hr] at hw
    refine ⟨s₁, acts, hw, fun target k => Steps.head ⟨h.running, by rw [State.curStatus?_setTop]; exact h.runnable, by rw [State.alone_setTop]; exact h.alone⟩ (h.within f) ?_⟩
    rw [stepThread_java (State.frames_setTop' f h.top) h.plain h.code hd, hr]
    exact k
  | ctl x s₁ acts => rw [hr] at hw; cases x <;> exact hw.elim
theorem mz_row {E : CtlPost} {e : Env} {d : Bool} {acts : List Action} {s : State} {cI cE : ClassId} {kI : Class} {t : FieldType} {k : Int32} {Q : Addr → Pre} (hk : ¬ k < 0) (hkI : s.vm.classes[cI]? = some kI) (hkind : kI.kind = .array cE t)
    (hlimit : ¬ k.toNatClampNeg > e.platform.arrayLengthLimit) (hheap : ¬ k.toNatClampNeg * componentBytes t > e.platform.maxHeapBytes) (hcells : s.heap.size < e.platform.maxCells) (hslots : s.slotsUsed + k.toNatClampNeg ≤ e.platform.maxSlots) (hfit : fits t (defaultValue t) = true)
    (hq : ∀ acts', Q s.heap.size d acts' (s.pushCell { cls := cI, slots := Array.replicate k.toNatClampNeg (defaultValue t) })) : wp (Op.multianewarray.make cI [k]) Q E e d acts s := by
  simp only [Op.multianewarray.make, wp_bind', W.ite, hk, if_false, wp_pure', W.theClass]
  refine ⟨kI, hkI, ?_⟩
  simp only [hkind]
  exact W.newArray_of hkI hkind hlimit hheap hcells hslots hfit hq
theorem mz_make {E : CtlPost} {e : Env} {d : Bool} {acts : List Action} {s : State} {cA cI cE : ClassId} {kA kI : Class} {t : FieldType} {n k : Int32} {Q : Addr → Pre} (I : Nat → State → Prop) (hn : ¬ n < 0) (hk : ¬ k < 0) (hkA : s.vm.classes[cA]? = some kA) (hkindA : kA.kind = .array cI (.array t)) (hkind : kI.kind = .array cE t)
    (hl1 : ¬ n.toNatClampNeg > e.platform.arrayLengthLimit) (hb1 : ¬ n.toNatClampNeg * componentBytes (.array t) > e.platform.maxHeapBytes) (hl2 : ¬ k.toNatClampNeg > e.platform.arrayLengthLimit) (hb2 : ¬ k.toNatClampNeg * componentBytes t > e.platform.maxHeapBytes)
    (hcells : s.heap.size < e.platform.maxCells) (hslots : s.slotsUsed + n.toNatClampNeg ≤ e.platform.maxSlots) (hfit : fits t (defaultValue t) = true)
    (h0 : I 0 (s.pushCell { cls := cA, slots := Array.replicate n.toNatClampNeg .null }))
    (hS : ∀ j s', j < n.toNatClampNeg → I j s' → s'.vm.classes[cI]? = some kI ∧ s'.heap.size < e.platform.maxCells ∧ s'.slotsUsed + k.toNatClampNeg ≤ e.platform.maxSlots ∧
      ∃ o : Cell, (s'.pushCell { cls := cI, slots := Array.replicate k.toNatClampNeg (defaultValue t) }).heap[s.heap.size]? = some o ∧ o.vm ≠ .unknown ∧ j < o.slots.size ∧ s'.fitsSlot o.cls o.vm j (.ref s'.heap.size) = true ∧
        I (j + 1) ((s'.pushCell { cls := cI, slots := Array.replicate k.toNatClampNeg (defaultValue t) }).setCell s.heap.size (o.setSlot j (.ref s'.heap.size))))
    (hq : ∀ s' d' acts', I n.toNatClampNeg s' → Q s.heap.size d' acts' s') : wp (Op.multianewarray.make cA [n, k]) Q E e d acts s := by
  rw [Op.multianewarray.make]
  simp only [wp_bind', W.ite, hn, if_false, wp_pure', W.theClass]
  refine ⟨kA, hkA, ?_⟩
  simp only [hkindA]
  simp only [wp_bind']
  refine W.newArray_of hkA hkindA hl1 hb1 hcells hslots rfl fun acts1 => ?_
  have hfd : List.find? (fun x : Int32 => decide (x < 0)) [k] = none := by simp [List.find?, hk]
  simp only [hfd]
  have key : ∀ d acts, wp (forIn [0:n.toNatClampNeg] PUnit.unit fun i r => do
      let a ← Op.multianewarray.make cI [k]
      Jvm.writeLoc s.heap.size i (.ref a)
      Pure.pure (ForInStep.yield PUnit.unit)) (fun _ d' acts' s' => Q s.heap.size d' acts' s') E e d acts (s.pushCell { cls := cA, slots := Array.replicate n.toNatClampNeg .null }) := by
    intro d acts
    rw [Std.Legacy.Range.forIn_eq_forIn_range']
    refine wp_forIn_inv (fun rest s' => ∃ j, j ≤ n.toNatClampNeg ∧ rest = List.range' j (n.toNatClampNeg - j) 1 ∧ I j s') _ _ ⟨0, Nat.zero_le _, by simp [Std.Legacy.Range.size], h0⟩ ?_ ?_
    · rintro x r s' d' acts' Q' ⟨j, hj, hr, hI⟩ kk
      have hj' : j < n.toNatClampNeg := by
        rcases Nat.lt_or_ge j n.toNatClampNeg with h | h
        · exact h
        · rw [Nat.sub_eq_zero_of_le h] at hr; cases hr
      obtain ⟨y, hy⟩ : ∃ y, n.toNatClampNeg - j = y + 1 := ⟨n.toNatClampNeg - j - 1, by omega⟩
      rw [hy, List.range'_succ] at hr
      obtain ⟨rfl, hr⟩ := List.cons.inj hr
      obtain ⟨a1, a2, a3, o, a4, a5, a6, a7, a8⟩ := hS x s' hj' hI
      simp only [wp_bind']
      refine mz_row hk a1 hkind hl2 hb2 a2 a3 hfit fun acts2 => ?_
      exact ⟨o, a4, a5, a6, a7, kk _ _ _ ⟨x + 1, hj', by rw [hr]; congr 1; omega, a8⟩⟩
    · rintro s' d' acts' ⟨j, hj, hr, hI⟩
      have : j = n.toNatClampNeg := by
        rcases Nat.lt_or_ge j n.toNatClampNeg with h | h
        · obtain ⟨y, hy⟩ : ∃ y, n.toNatClampNeg - j = y + 1 := ⟨n.toNatClampNeg - j - 1, by omega⟩
          rw [hy, List.range'_succ] at hr; cases hr
        · omega
      subst this
      exact hq _ _ _ hI
  split
  · rw [wp_bind']; exact key _ _
  · rw [wp_bind']; exact key _ _
def mz_V (T V : State) (vm₁ : Vm) (cA cI : ClassId) (n k : Nat) (v : Value) (j : Nat) : Prop :=
  V.vm = vm₁ ∧ V.heap.size = T.heap.size + 1 + j ∧ (∀ a, a < T.heap.size → V.heap[a]? = T.heap[a]?) ∧
  (∃ o : Cell, V.heap[T.heap.size]? = some o ∧ o.cls = cA ∧ o.vm = .none ∧ o.slots.size = n ∧ ∀ i, i < j → o.slots[i]? = some (.ref (T.heap.size + 1 + i))) ∧
  ∀ i, i < j → V.heap[T.heap.size + 1 + i]? = some { cls := cI, slots := Array.replicate k v }
theorem mz_push (U : State) (x : Cell) : (U.pushCell x).heap.size = U.heap.size + 1 := by simp [State.pushCell]
theorem mz_pushN (U : State) (x : Cell) : (U.pushCell x).heap[U.heap.size]? = some x := by simp [State.pushCell]
theorem mz_pushO (U : State) (x : Cell) {a : Nat} (h : a < U.heap.size) : (U.pushCell x).heap[a]? = U.heap[a]? := by
  simp only [State.pushCell]
  rw [Array.getElem?_push, if_neg (Nat.ne_of_lt h)]
theorem mz_V0 (T : State) (vm₁ : Vm) (cA cI : ClassId) (n k : Nat) (v : Value) : mz_V T ((T.setVm vm₁).pushCell { cls := cA, slots := Array.replicate n .null }) vm₁ cA cI n k v 0 :=
  ⟨rfl, mz_push _ _, fun a ha => mz_pushO (T.setVm vm₁) _ ha, ⟨_, mz_pushN (T.setVm vm₁) _, rfl, rfl, by simp, fun i hi => absurd hi (Nat.not_lt_zero _)⟩, fun i hi => absurd hi (Nat.not_lt_zero _)⟩
theorem mz_V1 {T V : State} {vm₁ : Vm} {cA cI : ClassId} {n k : Nat} {v : Value} {j : Nat} (hj : j < n) (h : mz_V T V vm₁ cA cI n k v j) :
    ∃ o : Cell, (V.pushCell { cls := cI, slots := Array.replicate k v }).heap[T.heap.size]? = some o ∧ o.cls = cA ∧ o.vm = .none ∧ o.slots.size = n ∧
      mz_V T ((V.pushCell { cls := cI, slots := Array.replicate k v }).setCell T.heap.size (o.setSlot j (.ref V.heap.size))) vm₁ cA cI n k v (j + 1) := by
  obtain ⟨h1, h2, h3, ⟨o, h4, h5, h6, h7, h8⟩, h9⟩ := h
  have hb : T.heap.size < V.heap.size := by omega
  have hb' : T.heap.size < (V.pushCell { cls := cI, slots := Array.replicate k v }).heap.size := by rw [mz_push]; omega
  refine ⟨o, (mz_pushO V _ hb).trans h4, h5, h6, h7, h1, ?_, fun a ha => ?_, ⟨o.setSlot j (.ref V.heap.size), heapAt_setCell_self _ hb', h5, h6, by simp [Cell.setSlot, h7], fun i hi => ?_⟩, fun i hi => ?_⟩
  · rw [size_setCell, mz_push]; omega
  · rw [heapAt_setCell_ne _ (Nat.ne_of_gt ha), mz_pushO V _ (Nat.lt_trans ha hb)]; exact h3 a ha
  · simp only [Cell.setSlot]
    rw [Array.getElem?_setIfInBounds]
    by_cases e : j = i
    · subst e; rw [if_pos rfl, if_pos (by omega), h2]
    · rw [if_neg e]; exact h8 i (by omega)
  · rw [heapAt_setCell_ne _ (Nat.ne_of_lt (show T.heap.size < T.heap.size + 1 + i by omega))]
    by_cases e : i = j
    · subst e; rw [← h2]; exact mz_pushN V _
    · rw [mz_pushO V _ (by omega)]; exact h9 i (by omega)
set_option maxHeartbeats 1000000 in
theorem mz_law {p : Program} {l : Launch} {e : Env} {R : Room} {s : State} {m : MethodId} {args : Array Value} {below : List Frame} {meth : Method} {c : Code} {T : State} {locs : List Loc} {cells slots : Nat} (X : Stand p l e R s m args below meth c T locs cells slots) (hexec : p.tables.exec = Jvm.exec)
    {own : String} {index : Nat} {t : FieldType} (hown : s.vm.findClass own = some m.cls) (hclink : (Cond.classLink own index ("[" ++ (FieldType.array t).toString)).before args s = true) (hover : (Cond.arrayOver (.array t)).before args s = true) (hac : (Cond.arrayClass t).before args s = true)
    {g : JFrame} (hg : g.method = m) (hdg : decode c.code g.pc = .ok (.multianewarray index 2, 4)) {n k : Int32} {rest : List Value} (hstack : g.stack = .int k :: .int n :: rest) (hn : ¬ n < 0) (hk : ¬ k < 0) (hn1 : n.toNatClampNeg ≤ 1000) (hk1 : k.toNatClampNeg ≤ 1000) (hcb : componentBytes t ≤ 8) (hfit : fits t (defaultValue t) = true)
    (hcells : cells + 1 + n.toNatClampNeg ≤ R.cells) (hslots : slots + n.toNatClampNeg + n.toNatClampNeg * k.toNatClampNeg ≤ R.slots) :
    ∃ (V : State) (vm₁ : Vm) (cA cI cE : ClassId) (kA kI : Class) (locs' : List Loc), s.vm.classes[cA]? = some kA ∧ kA.kind = .array cI (.array t) ∧ s.vm.classes[cI]? = some kI ∧ kI.kind = .array cE t ∧ (∀ q ∈ locs', q ∈ locs ∨ q.base = T.heap.size) ∧
      mz_V T V vm₁ cA cI n.toNatClampNeg k.toNatClampNeg (defaultValue t) n.toNatClampNeg ∧ Stand p l e R s m args below meth c V locs' (cells + 1 + n.toNatClampNeg) (slots + n.toNatClampNeg + n.toNatClampNeg * k.toNatClampNeg) ∧
      ∀ target, Steps p.tables e below (V.setTop { g with pc := g.pc + 4, stack := .ref T.heap.size :: rest }) target → Steps p.tables e below (T.setTop g) target := by
  subst hg
  have hpl : e.platform.magicAccessors = ({} : Platform).magicAccessors := by rw [X.admits.platform]
  obtain ⟨cI, cA, kA, hfI, hidx, hkA, hkindA, hnameA⟩ := arrayOverA_spec hover
  obtain ⟨cI', kI, cE, hfI', hkI, hkindI⟩ := Cond.arrayClass_spec hac
  have hII : cI' = cI := Option.some.inj (hfI'.symm.trans hfI)
  subst hII
  obtain ⟨cc', hfcc, hcl⟩ := Cond.classLink_spec hown hclink e.platform hpl
  cases hnameA.symm.trans hfcc
  obtain ⟨hg₁, hwarm₁, hready₁⟩ := State.classEntry (e := e) X.warmed hcl
  have hsz₁ : (T.vm.noted g.method.cls index (.cls cA)).classes.size ≤ T.vm.classes.size := by no_record
  generalize T.vm.noted g.method.cls index (.cls cA) = vm₁ at hg₁ hwarm₁ hready₁ hsz₁
  have hal : s.vm.Alike vm₁ := hwarm₁.alike
  obtain ⟨kA₁, hkA₁, heA⟩ := hal.2.2 _ _ hkA
  obtain ⟨kI₁, hkI₁, heI⟩ := hal.2.2 _ _ hkI
  have hkindA₁ : kA₁.kind = .array cI' (.array t) := by rw [heA]; exact hkindA
  have hkindI₁ : kI₁.kind = .array cE t := by rw [heI]; exact hkindI
  have hl1 : ¬ n.toNatClampNeg > e.platform.arrayLengthLimit := by rw [Launch.admits_arrayLengthLimit X.admits]; omega
  have hl2 : ¬ k.toNatClampNeg > e.platform.arrayLengthLimit := by rw [Launch.admits_arrayLengthLimit X.admits]; omega
  have hb1 : ¬ n.toNatClampNeg * componentBytes (.array t) > e.platform.maxHeapBytes := by
    rw [Launch.admits_maxHeapBytes X.admits]; show ¬ n.toNatClampNeg * 4 > 536870912; omega
  have hb2 : ¬ k.toNatClampNeg * componentBytes t > e.platform.maxHeapBytes := by
    rw [Launch.admits_maxHeapBytes X.admits]
    have := Nat.mul_le_mul hk1 hcb
    omega
  have X1 := (X.noted hwarm₁).pushed { cls := cA, slots := Array.replicate n.toNatClampNeg .null }
  rw [show (Array.replicate n.toNatClampNeg Value.null).size = n.toNatClampNeg by simp] at X1
  obtain ⟨r1, r2⟩ := X.roomAbove (a := 1) (b := n.toNatClampNeg) (by omega) (by omega)
  obtain ⟨s₁, acts, ⟨V, locs', rfl, hV, hL, XV⟩, hst⟩ := mz_run (P := fun s₁ => ∃ (V : State) (locs' : List Loc), s₁ = V.setTop { g with stack := .ref T.heap.size :: rest } ∧ mz_V T V vm₁ cA cI' n.toNatClampNeg k.toNatClampNeg (defaultValue t) n.toNatClampNeg ∧ (∀ q ∈ locs', q ∈ locs ∨ q.base = T.heap.size) ∧
      Stand p l e R s g.method args below meth c V locs' (cells + 1 + n.toNatClampNeg) (slots + n.toNatClampNeg + n.toNatClampNeg * k.toNatClampNeg)) X.here hdg (by
    rw [hexec]
    show wpRun (Op.multianewarray.sem index 2) _ _ e (T.setTop g)
    unfold wpRun Op.multianewarray.sem
    rw [wp_bind']
    refine (W.resolveClassAt_transfer (s := T.setTop g) (State.method?_setTop g X.here.top) hg₁ hready₁ hsz₁).mpr ?_
    refine (W.resolveClassAt_ready (s := (T.setVm vm₁).setTop g) (State.method?_setTop g X.here.top) hready₁).mpr ?_
    simp only [wp_bind', Jvm.popN, W.pop, State.topJava?_setTop' _ (show (T.setVm vm₁).topJava?.isSome from X.here.top), Option.some.injEq, exists_eq_left', hstack, List.cons.injEq, exists_cons_eq, State.setTop_setTop, wp_pure', List.nil_append, List.cons_append, List.mapM_cons, List.mapM_nil]
    refine mz_make (s := (T.setVm vm₁).setTop { g with stack := rest }) (kA := kA₁) (kI := kI₁) (t := t) (cE := cE) (cI := cI') (fun j s' => ∃ (V : State) (locs' : List Loc), s' = V.setTop { g with stack := rest } ∧ mz_V T V vm₁ cA cI' n.toNatClampNeg k.toNatClampNeg (defaultValue t) j ∧ (∀ q ∈ locs', q ∈ locs ∨ q.base = T.heap.size) ∧
      Stand p l e R s g.method args below meth c V locs' (cells + 1 + j) (slots + n.toNatClampNeg + j * k.toNatClampNeg)) hn hk hkA₁ hkindA₁ hkindI₁ hl1 hb1 hl2 hb2 (show T.heap.size < _ by omega) r2 hfit ⟨(T.setVm vm₁).pushCell { cls := cA, slots := Array.replicate n.toNatClampNeg .null }, locs, rfl, mz_V0 _ _ _ _ _ _ _, fun q hq => Or.inl hq, by rw [Nat.zero_mul]; exact X1⟩ ?_ ?_
    · rintro j s' hj ⟨V, locs', rfl, hV, hL, XV⟩
      have hmul : (j + 1) * k.toNatClampNeg ≤ n.toNatClampNeg * k.toNatClampNeg := Nat.mul_le_mul_right _ hj
      rw [Nat.add_mul, Nat.one_mul] at hmul
      obtain ⟨q1, q2⟩ := XV.roomAbove (a := 1) (b := k.toNatClampNeg) (by omega) (by omega)
      obtain ⟨o, o1, o2, o3, o4, o5⟩ := mz_V1 hj hV
      have hvm : V.vm = vm₁ := hV.1
      refine ⟨show V.vm.classes[cI']? = some kI₁ by rw [hvm]; exact hkI₁, show V.heap.size < _ by omega, q2, o, o1, (by rw [o3]; exact mz_n2), (by omega), ?_, (V.pushCell { cls := cI', slots := Array.replicate k.toNatClampNeg (defaultValue t) }).setCell T.heap.size (o.setSlot j (.ref V.heap.size)), locs' ++ [⟨T.heap.size, j⟩], rfl, o5, ?_, ?_⟩
      · show V.fitsSlot o.cls o.vm j _ = true
        rw [o2, o3]
        simp [State.fitsSlot, State.slotType?, hvm, hkA₁, hkindA₁]
        rfl
      · intro q hq
        rcases List.mem_append.mp hq with h | h
        · exact hL q h
        · rw [List.mem_singleton] at h; subst h; exact Or.inr rfl
      · have Y := (XV.pushed { cls := cI', slots := Array.replicate k.toNatClampNeg (defaultValue t) }).stored o1 j (.ref V.heap.size)
        rw [show (Array.replicate k.toNatClampNeg (defaultValue t)).size = k.toNatClampNeg by simp] at Y
        rw [Nat.add_mul, Nat.one_mul, ← Nat.add_assoc (slots + n.toNatClampNeg), ← Nat.add_assoc (cells + 1)]
        exact Y
    · rintro s' d' acts' ⟨V, locs', rfl, hV, hL, XV⟩
      exact ⟨_, State.topJava?_setTop' _ XV.here.top, V, locs', by rw [State.setTop_setTop]; rfl, hV, hL, XV⟩)
  rw [afterInstr_ok] at hst
  exact ⟨V, vm₁, cA, cI', cE, kA, kI, locs', hkA, hkindA, hkI, hkindI, hL, hV, XV, hst⟩
set_option maxHeartbeats 2000000 in
theorem MA_one {w : Wd} {d : Nat} {m : Mt} {g : En} {pc : Nat} {L : Lc} {st : List Value} {h h1 : hp} {idx ko ki N M : Nat} {n k : Int32} {ty : FieldType} (e1 : ety ko = .array ty) (e2 : ety ki = ty) (e3 : etc ko = 2) (hko : 20 ≤ ko ∧ ko < 25) (hki : 20 ≤ ki ∧ ki < 25) (hdv : defaultValue ty = dvt (etc ki)) (hml : ml2 ko = "[" ++ (FieldType.array ty).toString) (hdf : fits ty (defaultValue ty) = true) (hcb : componentBytes ty ≤ 8) (hov : Cond.arrayOver (.array ty) ∈ nxw) (hac : Cond.arrayClass ty ∈ lw_ok)
    (hlink : Cond.classLink m.1.cls idx (ml2 ko) ∈ lw_ok) (hd : decode m.2.1 pc = .ok (.multianewarray idx 2, 4)) (hn0 : ¬ n < 0) (hk0 : ¬ k < 0) (hnN : n.toNatClampNeg = N) (hkM : k.toNatClampNeg = M) (hN1 : N ≤ 1000) (hM1 : M ≤ 1000) (hle : hN h1 ≤ hN g.2.2.2 ∧ hZ h1 ≤ hZ g.2.2.2) (hb : bornM h h1 ko ki N M) (kk : J w d m g (pc + 4) L (.ref (hN h) :: st) h1) : J w d m g pc L (.int k :: .int n :: st) h := by
  subst hnN; subst hkM
  obtain ⟨n0, z0, r0, h0⟩ := g
  intro p e s mid args below meth c C H locs ls hS hl hlo hn hz
  obtain ⟨hx, hbc, hml', hown, hts, hr, hlk, hnm, hKU⟩ := id C
  obtain ⟨b1, b2, b3, b4, b5⟩ := id hb
  have hsz : ∀ j, adr w (hN h + j) = H.size + j := fun j => by rw [adr_own (by have := hS.1; omega), hS.2.1]; have := hS.1; omega
  have hov' : (Cond.arrayOver (.array ty)).before args s = true := hKU.2.1 _ hov
  have a1 : n0 ≤ hN h := hn.1
  have a2 : z0 ≤ hZ h := hz.1
  have a3 : hN h1 ≤ hN h0 := hle.1
  have a4 : hZ h1 ≤ hZ h0 := hle.2
  intro T hT X
  obtain ⟨V, vm₁, cA, cI, cE, kA, kI, locs', q1, q2, q3, q4, hL, ⟨-, v2, v3, ⟨o, v4, v5, v6, v7, v8⟩, v9⟩, XV, step⟩ := mz_law X hx hown (by rw [← hml]; exact hts _ hlink) hov' (hts _ hac) (g := F0 mid pc ls (.int k :: .int n :: st.map (cv w))) rfl (by rw [hbc]; exact hd) (n := n) (k := k) (rest := st.map (cv w)) rfl hn0 hk0 hN1 hM1 hcb hdf (by show (hN h - n0) + 1 + n.toNatClampNeg ≤ hN h0 - n0; omega) (by show (hZ h - z0) + n.toNatClampNeg + n.toNatClampNeg * k.toNatClampNeg ≤ hZ h0 - z0; omega)
  subst hT
  have hS' : Sim w s V.heap h1 := by
    refine hS.more (c := 1 + n.toNatClampNeg) b5 b1 (by rw [v2]; omega) v3 fun r r1 r2 => ?_
    by_cases hr0 : r = hN h
    · subst hr0
      refine ⟨o, by have := hsz 0; rw [Nat.add_zero, Nat.add_zero] at this; rw [this]; exact v4, Or.inr ?_⟩
      rw [b3]
      refine ⟨hko.1, by have := hko.2; show ko < 26; omega, ⟨fun q => by rw [v6]; exact mz_n1 q, kA, by rw [v5]; exact q1, cI, by show kA.kind = .array cI (ety ko); rw [e1]; exact q2⟩, by rw [v6]; exact mz_n2, szo_of v7, fun q => by (have q : ko = 25 := q); omega, fun j hj => ?_⟩
      have hj : j < n.toNatClampNeg := hj
      rw [v8 j hj]
      show _ = some (cv w (rd (etc ko) h1 (hN h) j))
      rw [e3]
      show _ = some (cv w (rv (hR h1 (hN h) j)))
      rw [(b4 j hj).1]
      show _ = some (Value.ref (adr w (hN h + 1 + j)))
      rw [show hN h + 1 + j = hN h + (1 + j) by omega, hsz]
      congr 2
      show T.heap.size + 1 + j = T.heap.size + (1 + j)
      omega
    · obtain ⟨j, rfl⟩ : ∃ j, r = hN h + 1 + j := ⟨r - (hN h + 1), by omega⟩
      have hj : j < n.toNatClampNeg := by omega
      obtain ⟨c1, c2, c3⟩ := b4 j hj
      refine ⟨_, by rw [show hN h + 1 + j = hN h + (1 + j) by omega, hsz, show T.heap.size + (1 + j) = T.heap.size + 1 + j by omega]; exact v9 j hj, Or.inr ?_⟩
      rw [c2]
      refine ⟨hki.1, by have := hki.2; show ki < 26; omega, ⟨fun q => mz_n1 q, kI, q3, cE, by show kI.kind = .array cE (ety ki); rw [e2]; exact q4⟩, mz_n2, szo_of (by simp), fun q => by (have q : ki = 25 := q); omega, fun i hi => ?_⟩
      have hi : i < k.toNatClampNeg := hi
      show (Array.replicate k.toNatClampNeg (defaultValue ty))[i]? = some (cv w (rd (etc ki) h1 (hN h + 1 + j) i))
      rw [dvt_rd _ (c3 i), hdv]
      simp [hi]
  have hlo' : ∀ q ∈ locs', wB w ≤ q.base := fun q hq => by
    rcases hL q hq with x | x
    · exact hlo q x
    · rw [x, hS.2.1]; exact Nat.le_add_right _ _
  have K := kk p e s mid args below meth c C _ locs' ls hS' hl hlo' ⟨by show n0 ≤ hN h1; omega, hle.1⟩ ⟨by show z0 ≤ hZ h1; omega, hle.2⟩
  have h00 := hsz 0
  rw [Nat.add_zero, Nat.add_zero] at h00
  rw [List.map_cons, show cv w (.ref (hN h)) = .ref T.heap.size from congrArg Value.ref h00] at K
  obtain ⟨t, t1, t2⟩ := W.cs (cells := (hN h - n0) + 1 + n.toNatClampNeg) (slots := (hZ h - z0) + n.toNatClampNeg + n.toNatClampNeg * k.toNatClampNeg) (by show _ = hN h1 - n0; omega) (by show _ = hZ h1 - z0; omega) K _ rfl XV
  exact ⟨t, step t t1, t2⟩
theorem ov_i : Cond.arrayOver (.array .int) ∈ nxw := List.mem_of_getElem? (i := 1) rfl
theorem ov_l : Cond.arrayOver (.array .long) ∈ nxw := List.mem_of_getElem? (i := 7) rfl
theorem MAr_ok (w : Wd) : MAr w := by
  intro d m g pc L st h h1 idx ko ki N M n k hk hlink hd hn0 hk0 hnN hkM hN1 hM1 hle hb kk
  rcases hk with ⟨rfl, rfl⟩ | ⟨rfl, rfl⟩
  · exact MA_one (ty := .int) rfl rfl rfl (by decide) (by decide) rfl (by decide +kernel) rfl (by decide) ov_i okY_20 hlink hd hn0 hk0 hnN hkM hN1 hM1 hle hb kk
  · exact MA_one (ty := .long) rfl rfl rfl (by decide) (by decide) rfl (by decide +kernel) rfl (by decide) ov_l okY_21 hlink hd hn0 hk0 hnN hkM hN1 hM1 hle hb kk
