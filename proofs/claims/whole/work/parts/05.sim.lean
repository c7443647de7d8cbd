/-! What the world is: classes, words that are not handed on, texts, statics; cells; a method that runs. -/
def nxw : List Cond := [.methodLinkNest "LeftTown" 9 ⟨"LeftTown$Town", "<init>", "()V"⟩ "LeftTown", .arrayOver (.array .int), .methodLinkNest "LeftTown$Town" 24 ⟨"LeftTown$Law", "<init>", "()V"⟩ "LeftTown", .methodLinkNest "LeftTown" 21 ⟨"LeftTown$LawReader", "<init>", "()V"⟩ "LeftTown", .methodLinkNest "LeftTown$LawReader" 13 ⟨"LeftTown$Law", "<init>", "()V"⟩ "LeftTown", .methodLinkNest "LeftTown" 28 ⟨"LeftTown$Ways", "<init>", "()V"⟩ "LeftTown", .methodLinkNest "LeftTown" 35 ⟨"LeftTown$Host", "<init>", "()V"⟩ "LeftTown", .arrayOver (.array .long), .methodLinkNest "LeftTown$Law" 34 ⟨"LeftTown", "isUnder", "(II)Z"⟩ "LeftTown", .methodLinkNest "LeftTown$Ways" 98 ⟨"LeftTown", "isIn", "(JI)Z"⟩ "LeftTown", .declares ⟨"LeftTown$Thing", "begin", "(I)V"⟩, .declares ⟨"LeftTown$Thing", "turns", "(I)I"⟩, .declares ⟨"LeftTown$Thing", "goes", "(I)I"⟩, .declares ⟨"LeftTown$Thing", "tells", "(I)I"⟩, .declares ⟨"LeftTown$Thing", "sees", "(I)I"⟩, .arrayOver (.object "java/lang/String")]
/-- texts: own class, pool place, text, number -/
def srf : List (String × Nat × String × Nat) := [("LeftTown$LawReader", 82, "turn", 0), ("LeftTown$LawReader", 88, "on", 1), ("LeftTown$LawReader", 90, "left", 2), ("LeftTown$LawReader", 92, "sharp", 3), ("LeftTown$LawReader", 94, "right", 4), ("LeftTown$LawReader", 96, "round", 5), ("LeftTown$LawReader", 98, "wide", 6), ("LeftTown$LawReader", 100, "was", 7), ("LeftTown$LawReader", 102, "long", 8), ("LeftTown$LawReader", 104, "day", 9), ("LeftTown$LawReader", 106, "width", 10), ("LeftTown$LawReader", 108, "place", 11), ("LeftTown$LawReader", 110, "if", 12), ("LeftTown$LawReader", 112, "or", 13), ("LeftTown$LawReader", 114, "and", 14), ("LeftTown$LawReader", 116, "not", 15), ("LeftTownModel", 28, "wide", 6), ("LeftTownModel", 30, "was", 7), ("LeftTownModel", 32, "long", 8), ("LeftTownModel", 34, "day", 9), ("LeftTownModel", 36, "width", 10), ("LeftTownModel", 38, "place", 11), ("LeftTownModel", 44, "turn", 0), ("LeftTownModel", 46, "on", 1), ("LeftTownModel", 48, "left", 2), ("LeftTownModel", 50, "sharp", 3), ("LeftTownModel", 52, "right", 4), ("LeftTownModel", 54, "round", 5), ("LeftTownModel", 261, "if", 12), ("LeftTownModel", 244, "not", 15), ("LeftTownModel", 242, "and", 14), ("LeftTownModel", 225, "or", 13)]
/-- int constants, long constants: own class, pool place, (0: as it is, 1: negative), value -/
def cki : List (String × Nat × Nat) := [("LeftTown$Ways", 93, 1000000), ("LeftTown", 170, 1000000), ("java/lang/Integer", 264, 65536), ("java/lang/Integer", 265, 1431655765), ("java/lang/Integer", 266, 858993459), ("java/lang/Integer", 267, 252645135), ("LeftTownModel", 273, 100000)]
def ckl : List (String × Nat × Nat × Nat) := [("LeftTown$Law", 42, 1, 2), ("LeftTown$Ways", 106, 1, 1), ("LeftTown$Ways", 157, 0, 3), ("LeftTownModel", 184, 0, 255), ("LeftTownModel", 296, 1, 1), ("LeftTownLaw", 45, 0, 4294967295)]
theorem cki_ok : cki.all (fun e => decide (Cond.constant e.1 e.2.1 (Int32.ofNat e.2.2) ∈ lw_ok)) = true := by decide +kernel
theorem ckl_ok : ckl.all (fun e => decide (Cond.constantLong e.1 e.2.1 (if e.2.2.1 = 0 then Int64.ofNat e.2.2.2 else -(Int64.ofNat e.2.2.2)) ∈ lw_ok)) = true := by decide +kernel
theorem cki_use {own : String} {i v : Nat} (h : (own, i, v) ∈ cki) : Cond.constant own i (Int32.ofNat v) ∈ lw_ok := by
  have h1 := List.all_eq_true.mp cki_ok _ h
  simp only [decide_eq_true_eq] at h1
  exact h1
theorem ckl_use {own : String} {i s v : Nat} (h : (own, i, s, v) ∈ ckl) : Cond.constantLong own i (if s = 0 then Int64.ofNat v else -(Int64.ofNat v)) ∈ lw_ok := by
  have h1 := List.all_eq_true.mp ckl_ok _ h
  simp only [decide_eq_true_eq] at h1
  exact h1
/-- links of the texts' own fields and of statics: own class, pool place, class named, field (0 value, 1 coder; 2 compact, 3 formatter) -/
def jfn (k : Nat) : String × String × String := match k with
  | 0 => ("java/lang/String", "value", "[B")
  | 1 => ("java/lang/String", "coder", "B")
  | 2 => ("java/lang/String", "COMPACT_STRINGS", "Z")
  | _ => ("jdk/internal/util/Preconditions", "SIOOBE_FORMATTER", "Ljava/util/function/BiFunction;")
def jfl : List (String × Nat × Nat) := [("java/lang/String", 38, 2), ("java/lang/String", 1053, 3), ("java/lang/String", 9, 0), ("java/lang/String", 15, 1)]
theorem jfl_ok : jfl.all (fun e => decide (Cond.fieldLink e.1 e.2.1 (jfn e.2.2).1 (jfn e.2.2).2.1 (jfn e.2.2).2.2 ∈ lw_ok)) = true := by decide +kernel
theorem jfl_use {own : String} {i k : Nat} (h : (own, i, k) ∈ jfl) : Cond.fieldLink own i (jfn k).1 (jfn k).2.1 (jfn k).2.2 ∈ lw_ok := by
  have h1 := List.all_eq_true.mp jfl_ok _ h
  simp only [decide_eq_true_eq] at h1
  exact h1
def wOut (w : Wd) : Nat → Prop := fun q => wB w ≤ q
def KU (w : Wd) (U : State) : Prop :=
  (∀ ci, ci < 12 → u_Kn U (cN ci) (fT (cF ci)) (cF ci).length (wC w ci) (wI w ci)) ∧ (∀ x ∈ nxw, va_Nw x U) ∧ (∀ e ∈ srf, vk_R e.1 e.2.1 e.2.2.1 (wA w e.2.2.2) U) ∧
  (∀ i, i < 16 → va_O "java/lang/String" (wA w i) (wOut w) U (wH w) ∧ va_OF "java/lang/String" "coder" "B" (.int 0) (wA w i) (wOut w) U (wH w) ∧ va_OF "java/lang/String" "value" "[B" (.ref (wA w (16 + i))) (wA w i) (wOut w) U (wH w)) ∧
  va_Z "java/lang/String" "COMPACT_STRINGS" "Z" (.int 1) (wOut w) U (wH w) ∧ va_Z "jdk/internal/util/Preconditions" "SIOOBE_FORMATTER" "Ljava/util/function/BiFunction;" (rv (wF w)) (wOut w) U (wH w)
theorem aoA_moved {t : FieldType} {u U : State} (hvm : u.vm.Alike U.vm) (h : va_Nw (.arrayOver (.array t)) u) : va_Nw (.arrayOver (.array t)) U := by
  obtain ⟨comp, c, k, h1, h2, h3, h4, h5⟩ := arrayOverA_spec h
  obtain ⟨k', hk', he⟩ := hvm.2.2 _ _ h3
  have hi : (U.vm.classes.findIdx? fun (x : Class) => match x.kind with | .array component _ => component == comp | _ => false) = some c := by
    rw [hvm.findIdx?_eq _ (fun _ => rfl)]
    exact h2
  have hkind : k'.kind = .array comp (.array t) := by rw [he]; exact h4
  have f1 : U.vm.findClass (FieldType.array t).toString = some comp := by rw [hvm.findClass]; exact h1
  have f2 : U.vm.findClass ("[" ++ (FieldType.array t).toString) = some c := by rw [hvm.findClass]; exact h5
  unfold va_Nw Cond.before Cond.holds
  simp only [Cond.value]
  rw [f1, Option.bind_some]
  refine (congrArg (fun o : Option Nat => (o.bind (fun c => (U.vm.classes[c]?).map fun (k : Class) => match k.kind with | .array _ ty => decide (ty = FieldType.array t) && decide (U.vm.findClass ("[" ++ (FieldType.array t).toString) = some c) | _ => false) == some true)) hi).trans ?_
  simp [hk', hkind, f2]
theorem nxw_warm {s U : State} (hW : s.WarmedH U.vm) (h : ∀ x ∈ nxw, va_Nw x s) : ∀ x ∈ nxw, va_Nw x U := by
  intro x hx
  have h1 := h x hx
  clear h
  simp only [nxw, List.mem_cons, List.not_mem_nil, or_false] at hx
  rcases hx with rfl | rfl | rfl | rfl | rfl | rfl | rfl | rfl | rfl | rfl | rfl | rfl | rfl | rfl | rfl | rfl <;> first | exact va_Nw.warmM hW h1 | exact va_Nw.warmD hW h1 | exact aoA_moved hW.alike h1 | exact va_AO.moved hW.alike h1
theorem KU.warm {w : Wd} {s U : State} (hW : s.WarmedH U.vm) (h : KU w s) : KU w U :=
  ⟨fun ci hc => u_Kn_moved hW.alike (h.1 ci hc), nxw_warm hW h.2.1, fun e he => (h.2.2.1 e he).warm hW,
    fun i hi => ⟨(h.2.2.2.1 i hi).1.moved hW.alike, (h.2.2.2.1 i hi).2.1.moved hW.alike, (h.2.2.2.1 i hi).2.2.moved hW.alike⟩, h.2.2.2.2.1.moved hW.alike, h.2.2.2.2.2.moved hW.alike⟩
def compS (U : State) (cell : Cell) : Prop := ∃ (kA : Class) (comp : ClassId), U.vm.classes[cell.cls]? = some kA ∧ kA.kind = .array comp (.object "java/lang/String") ∧ U.vm.findClass "java/lang/String" = some comp
/-- how long an array is: of the texts' bytes only what an int can tell -/
def szo (r : Nat) (cell : Cell) (n : Nat) : Prop := (32 ≤ r → cell.slots.size = n) ∧ n ≤ cell.slots.size ∧ cell.slots.size.toInt32 = Int32.ofNat n
theorem szo_of {r : Nat} {cell : Cell} {n : Nat} (h : cell.slots.size = n) : szo r cell n := ⟨fun _ => h, Nat.le_of_eq h.symm, congrArg Int32.ofNat h⟩
theorem szo_at {r : Nat} {cell cell' : Cell} {n : Nat} (h : cell'.slots.size = cell.slots.size) (k : szo r cell n) : szo r cell' n := by
  unfold szo; rw [h]; exact k
def cOK (w : Wd) (U : State) (H : Heap) (h : hp) (r : Nat) : Prop := ∃ cell : Cell, H[adr w r]? = some cell ∧
  (((hK h r).1 < 12 ∧ 33 ≤ r ∧ cell.vm = .none ∧ cell.cls = wC w (hK h r).1 ∧ ∀ j, j < (cF (hK h r).1).length → cell.slots[wI w (hK h r).1 j]? = some (cv w (rd (fC (hK h r).1 j) h r j))) ∨
   (20 ≤ (hK h r).1 ∧ (hK h r).1 < 26 ∧ U.isArrayOf cell (ety (hK h r).1) ∧ cell.vm ≠ .unknown ∧ szo r cell (hK h r).2 ∧ ((hK h r).1 = 25 → compS U cell) ∧ ∀ j, j < (hK h r).2 → cell.slots[j]? = some (cv w (rd (etc (hK h r).1) h r j))))
theorem cOK.moved {w : Wd} {u U : State} {H : Heap} {h : hp} {r : Nat} (hvm : u.vm.Alike U.vm) (k : cOK w u H h r) : cOK w U H h r := by
  obtain ⟨cell, h1, h2 | ⟨a, b, c, d, e, f, g⟩⟩ := k
  · exact ⟨cell, h1, Or.inl h2⟩
  · refine ⟨cell, h1, Or.inr ⟨a, b, State.isArrayOf_alike hvm c, d, e, fun q => ?_, g⟩⟩
    obtain ⟨kA, comp, q1, q2, q3⟩ := f q
    obtain ⟨k', hk', he⟩ := hvm.2.2 _ _ q1
    exact ⟨k', comp, hk', by rw [he]; exact q2, by rw [hvm.findClass]; exact q3⟩
theorem cOK.kept {w : Wd} {U : State} {H H1 : Heap} {h : hp} {r : Nat} (hq : H1[adr w r]? = H[adr w r]?) (k : cOK w U H h r) : cOK w U H1 h r := by
  obtain ⟨cell, h1, h2⟩ := k
  exact ⟨cell, hq.trans h1, h2⟩
/-- the heap H is what h tells -/
def Sim (w : Wd) (U : State) (H : Heap) (h : hp) : Prop := 33 ≤ hN h ∧ H.size = wB w + (hN h - 33) ∧ (∀ r, 16 ≤ r → r < hN h → cOK w U H h r) ∧ (∀ q, q < wB w → H[q]? = (wH w)[q]?) ∧ ∀ i, i < 33 → wA w i < wB w
theorem Sim.moved {w : Wd} {u U : State} {H : Heap} {h : hp} (hvm : u.vm.Alike U.vm) (k : Sim w u H h) : Sim w U H h := ⟨k.1, k.2.1, fun r h1 h2 => (k.2.2.1 r h1 h2).moved hvm, k.2.2.2⟩
theorem adr_own {w : Wd} {r : Nat} (h : 33 ≤ r) : adr w r = wB w + (r - 33) := if_neg (by omega)
theorem adr_inj {w : Wd} {r q : Nat} (hA : ∀ i, i < 33 → wA w i < wB w) (hr : 33 ≤ r) (hq : q ≠ r) : adr w q ≠ adr w r := by
  rw [adr_own hr]
  unfold adr
  split
  · have := hA q (by assumption)
    omega
  · omega
/-- locals -/
def LR (w : Wd) (ls : Array Slot) (nL : Nat) (L : Lc) : Prop := ls.size = nL ∧ lv_wf ls ∧ ∀ (i : Nat) (v : Value), gL L i = some v → ls[i]? = some (.val (cv w v))
def asc (w : Wd) (L : Lc) : List (Nat × Value) := (List.range L.length).filterMap fun i => (gL L i).map fun v => (i, cv w v)
theorem gL_lt {L : Lc} {i : Nat} {v : Value} (h : gL L i = some v) : i < L.length := by
  induction L generalizing i with
  | nil => cases h
  | cons x t ih =>
    cases i with
    | zero => simp
    | succ i => have := ih h; simp; omega
theorem asc_mem {w : Wd} {L : Lc} {i : Nat} {v : Value} (h : gL L i = some v) : (i, cv w v) ∈ asc w L :=
  List.mem_filterMap.mpr ⟨i, List.mem_range.mpr (gL_lt h), by rw [h]; rfl⟩
theorem asc_of {w : Wd} {L : Lc} {q : Nat × Value} (h : q ∈ asc w L) : ∃ v, gL L q.1 = some v ∧ q.2 = cv w v := by
  obtain ⟨i, -, hi⟩ := List.mem_filterMap.mp h
  cases hg : gL L i with
  | none => rw [hg] at hi; cases hi
  | some v => rw [hg] at hi; cases hi; exact ⟨v, hg, rfl⟩
theorem LR.has {w : Wd} {ls : Array Slot} {nL : Nat} {L : Lc} (h : LR w ls nL L) : lv_has ls nL (asc w L) :=
  ⟨h.1, h.2.1, fun q hq => by obtain ⟨v, h1, h2⟩ := asc_of hq; rw [h2]; exact h.2.2 _ _ h1⟩
theorem nlong_e {x : Option Value} {u : Value} (h : nlong x = some u) : x = some u ∧ u.category = 1 := by
  unfold nlong at h
  split at h
  · cases h
  · cases h
  · rename_i h1 h2
    subst h
    refine ⟨rfl, ?_⟩
    cases u with
    | long v => exact absurd rfl (h1 v)
    | double v => exact absurd rfl (h2 v)
    | _ => rfl
theorem st1_e {L : Lc} {i j : Nat} {v u : Value} (h : gL (st1 L i v) j = some u) : (j = i ∧ u = v) ∨ (j ≠ i ∧ gL L j = some u ∧ (j + 1 = i → u.category = 1)) := by
  induction L generalizing i j with
  | nil => cases h
  | cons x t ih =>
    match i, j, h with
    | 0, 0, h => exact Or.inl ⟨rfl, (Option.some.inj h).symm⟩
    | 0, j + 1, h => exact Or.inr ⟨by omega, h, fun q => by omega⟩
    | 1, 0, h => exact Or.inr ⟨by omega, (nlong_e h).1, fun _ => (nlong_e h).2⟩
    | 1, j + 1, h =>
      rcases ih (i := 0) (j := j) h with ⟨a, b⟩ | ⟨a, b, c⟩
      · exact Or.inl ⟨by omega, b⟩
      · exact Or.inr ⟨by omega, b, fun q => by omega⟩
    | i + 2, 0, h => exact Or.inr ⟨by omega, h, fun q => by omega⟩
    | i + 2, j + 1, h =>
      rcases ih (i := i + 1) (j := j) h with ⟨a, b⟩ | ⟨a, b, c⟩
      · exact Or.inl ⟨by omega, b⟩
      · exact Or.inr ⟨by omega, b, fun q => c (by omega)⟩
theorem clr_e {L : Lc} {j : Nat} {u : Value} (h : gL (clr L) j = some u) : j ≠ 0 ∧ gL L j = some u := by
  cases L with
  | nil => cases h
  | cons x t =>
    cases j with
    | zero => cases h
    | succ j => exact ⟨by omega, h⟩
theorem st2_e {L : Lc} {i j : Nat} {v u : Value} (h : gL (st2 L i v) j = some u) : (j = i ∧ u = v) ∨ (j ≠ i ∧ j ≠ i + 1 ∧ gL L j = some u ∧ (j + 1 = i → u.category = 1)) := by
  induction L generalizing i j with
  | nil => cases h
  | cons x t ih =>
    match i, j, h with
    | 0, 0, h => exact Or.inl ⟨rfl, (Option.some.inj h).symm⟩
    | 0, j + 1, h => obtain ⟨a, b⟩ := clr_e h; exact Or.inr ⟨by omega, by omega, b, fun q => by omega⟩
    | 1, 0, h => exact Or.inr ⟨by omega, by omega, (nlong_e h).1, fun _ => (nlong_e h).2⟩
    | 1, j + 1, h =>
      rcases ih (i := 0) (j := j) h with ⟨a, b⟩ | ⟨a, a2, b, c⟩
      · exact Or.inl ⟨by omega, b⟩
      · exact Or.inr ⟨by omega, by omega, b, fun q => by omega⟩
    | i + 2, 0, h => exact Or.inr ⟨by omega, by omega, h, fun q => by omega⟩
    | i + 2, j + 1, h =>
      rcases ih (i := i + 1) (j := j) h with ⟨a, b⟩ | ⟨a, a2, b, c⟩
      · exact Or.inl ⟨by omega, b⟩
      · exact Or.inr ⟨by omega, by omega, b, fun q => c (by omega)⟩
theorem LR.st1 {w : Wd} {ls' : Array Slot} {nL i : Nat} {L : Lc} {v : Value} (h : lv_has ls' nL ((i, cv w v) :: (asc w L).filter (fun q => !(q.1 == i) && !(q.1 + 1 == i && q.2.category == 2)))) : LR w ls' nL (st1 L i v) := by
  refine ⟨h.1, h.2.1, fun j u hu => ?_⟩
  rcases st1_e hu with ⟨rfl, rfl⟩ | ⟨a, b, c⟩
  · exact h.2.2 _ List.mem_cons_self
  · refine h.2.2 (j, cv w u) (List.mem_cons_of_mem _ (List.mem_filter.mpr ⟨asc_mem b, ?_⟩))
    have : ¬ (j + 1 = i ∧ u.category = 2) := fun q => by have := c q.1; omega
    simp [a, cv_cat]
    omega
theorem LR.st2 {w : Wd} {ls' : Array Slot} {nL i : Nat} {L : Lc} {v : Value} (h : lv_has ls' nL ((i, cv w v) :: (asc w L).filter (fun q => !(q.1 == i) && (!(q.1 == i + 1) && !(q.1 + 1 == i && q.2.category == 2))))) : LR w ls' nL (st2 L i v) := by
  refine ⟨h.1, h.2.1, fun j u hu => ?_⟩
  rcases st2_e hu with ⟨rfl, rfl⟩ | ⟨a, a2, b, c⟩
  · exact h.2.2 _ List.mem_cons_self
  · refine h.2.2 (j, cv w u) (List.mem_cons_of_mem _ (List.mem_filter.mpr ⟨asc_mem b, ?_⟩))
    have : ¬ (j + 1 = i ∧ u.category = 2) := fun q => by have := c q.1; omega
    simp [a, a2, cv_cat]
    omega
/-- fewer locals are known -/
def leL : Lc → Lc → Bool
  | _, [] => true
  | [], y :: t => y.isNone && leL [] t
  | x :: s, y :: t => (match y with | none => true | some v => decide (x = some v)) && leL s t
/-- a method's own words while it runs -/
def Cx (w : Wd) (m : Mt) (p : Program) (s : State) (mid : MethodId) (args : Array Value) (meth : Method) (c : Code) : Prop :=
  p.tables.exec = Jvm.exec ∧ c.code = m.2.1 ∧ c.maxLocals = m.2.2.1 ∧ s.vm.findClass m.1.cls = some mid.cls ∧ (∀ x ∈ lw_ok, x.before args s = true) ∧ meth.sig.returnType = m.2.2.2 ∧ meth.locks = false ∧ meth.name = m.1.name ∧ KU w s
/-- it goes on, from here, to Q -/
def JW (w : Wd) (m : Mt) (p : Program) (e : Env) (R : Room) (s : State) (mid : MethodId) (args : Array Value) (below : List Frame) (meth : Method) (c : Code) (Q : State → Prop) (n0 z0 : Nat × Nat) (pc : Nat) (L : Lc) (st : List Value) (h : hp) : Prop :=
  ∀ (H : Heap) (locs : List Loc) (ls : Array Slot), Sim w s H h → LR w ls m.2.2.1 L → (∀ q ∈ locs, wB w ≤ q.base) → (n0.1 ≤ hN h ∧ hN h ≤ n0.2) → (z0.1 ≤ hZ h ∧ hZ h ≤ z0.2) →
    W p (wL w) e R s mid args below meth c H locs (hN h - n0.1) (hZ h - z0.1) Q (F0 mid pc ls (st.map (cv w)))
