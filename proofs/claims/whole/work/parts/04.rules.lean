/-! The state of a method that runs: locals by number, the stack, the cells; what a straight stretch asks for and does. -/
abbrev Lc : Type := List (Option Value)
abbrev Ins : Type := Instr × Nat × Nat × Nat
def lit (n : Int) : Int32 := match n with
  | .ofNat k => Int32.ofNat k
  | .negSucc k => -(Int32.ofNat (k + 1))
def gL : Lc → Nat → Option Value
  | [], _ => none
  | x :: _, 0 => x
  | _ :: t, i + 1 => gL t i
def nlong (x : Option Value) : Option Value := match x with
  | some (.long _) => none
  | some (.double _) => none
  | y => y
def clr : Lc → Lc
  | [] => []
  | _ :: t => none :: t
def st1 : Lc → Nat → Value → Lc
  | [], _, _ => []
  | _ :: t, 0, v => some v :: t
  | x :: t, 1, v => nlong x :: st1 t 0 v
  | x :: t, i + 2, v => x :: st1 t (i + 1) v
def st2 : Lc → Nat → Value → Lc
  | [], _, _ => []
  | _ :: t, 0, v => some v :: clr t
  | x :: t, 1, v => nlong x :: st2 t 0 v
  | x :: t, i + 2, v => x :: st2 t (i + 1) v
def onI (o : Option Value) (f : Int32 → Prop) : Prop := match o with
  | some (.int x) => f x
  | _ => False
def onJ (o : Option Value) (f : Int64 → Prop) : Prop := match o with
  | some (.long x) => f x
  | _ => False
def onA (o : Option Value) (f : Value → Prop) : Prop := match o with
  | some (.ref r) => f (.ref r)
  | some .null => f .null
  | some (.retAddr q) => f (.retAddr q)
  | _ => False
def pI (st : List Value) (f : Int32 → List Value → Prop) : Prop := match st with
  | .int x :: s => f x s
  | _ => False
def pII (st : List Value) (f : Int32 → Int32 → List Value → Prop) : Prop := match st with
  | .int y :: .int x :: s => f x y s
  | _ => False
def pJ (st : List Value) (f : Int64 → List Value → Prop) : Prop := match st with
  | .long x :: s => f x s
  | _ => False
def pJJ (st : List Value) (f : Int64 → Int64 → List Value → Prop) : Prop := match st with
  | .long y :: .long x :: s => f x y s
  | _ => False
def pJI (st : List Value) (f : Int64 → Int32 → List Value → Prop) : Prop := match st with
  | .int y :: .long x :: s => f x y s
  | _ => False
def pR (st : List Value) (f : Nat → List Value → Prop) : Prop := match st with
  | .ref r :: s => f r s
  | _ => False
def pA (st : List Value) (f : Value → List Value → Prop) : Prop := match st with
  | .ref r :: s => f (.ref r) s
  | .null :: s => f .null s
  | .retAddr q :: s => f (.retAddr q) s
  | _ => False
def pN (st : List Value) (f : Option Nat → List Value → Prop) : Prop := match st with
  | .ref r :: s => f (some r) s
  | .null :: s => f none s
  | _ => False
def p1 (st : List Value) (f : Value → List Value → Prop) : Prop := match st with
  | .int x :: s => f (.int x) s
  | .ref r :: s => f (.ref r) s
  | .null :: s => f .null s
  | .retAddr q :: s => f (.retAddr q) s
  | _ => False
theorem onI_e {o : Option Value} {f : Int32 → Prop} (h : onI o f) : ∃ x, o = some (.int x) ∧ f x := by
  unfold onI at h; split at h
  · exact ⟨_, rfl, h⟩
  · exact h.elim
theorem onJ_e {o : Option Value} {f : Int64 → Prop} (h : onJ o f) : ∃ x, o = some (.long x) ∧ f x := by
  unfold onJ at h; split at h
  · exact ⟨_, rfl, h⟩
  · exact h.elim
theorem onA_e {o : Option Value} {f : Value → Prop} (h : onA o f) : ∃ x, o = some x ∧ ((∃ r, x = .ref r) ∨ x = .null ∨ ∃ q, x = .retAddr q) ∧ f x := by
  unfold onA at h; split at h
  · exact ⟨_, rfl, Or.inl ⟨_, rfl⟩, h⟩
  · exact ⟨_, rfl, Or.inr (Or.inl rfl), h⟩
  · exact ⟨_, rfl, Or.inr (Or.inr ⟨_, rfl⟩), h⟩
  · exact h.elim
theorem pI_e {st : List Value} {f : Int32 → List Value → Prop} (h : pI st f) : ∃ x s, st = .int x :: s ∧ f x s := by
  unfold pI at h; split at h
  · exact ⟨_, _, rfl, h⟩
  · exact h.elim
theorem pII_e {st : List Value} {f : Int32 → Int32 → List Value → Prop} (h : pII st f) : ∃ x y s, st = .int y :: .int x :: s ∧ f x y s := by
  unfold pII at h; split at h
  · exact ⟨_, _, _, rfl, h⟩
  · exact h.elim
theorem pJ_e {st : List Value} {f : Int64 → List Value → Prop} (h : pJ st f) : ∃ x s, st = .long x :: s ∧ f x s := by
  unfold pJ at h; split at h
  · exact ⟨_, _, rfl, h⟩
  · exact h.elim
theorem pJJ_e {st : List Value} {f : Int64 → Int64 → List Value → Prop} (h : pJJ st f) : ∃ x y s, st = .long y :: .long x :: s ∧ f x y s := by
  unfold pJJ at h; split at h
  · exact ⟨_, _, _, rfl, h⟩
  · exact h.elim
theorem pJI_e {st : List Value} {f : Int64 → Int32 → List Value → Prop} (h : pJI st f) : ∃ x y s, st = .int y :: .long x :: s ∧ f x y s := by
  unfold pJI at h; split at h
  · exact ⟨_, _, _, rfl, h⟩
  · exact h.elim
theorem pR_e {st : List Value} {f : Nat → List Value → Prop} (h : pR st f) : ∃ (r : Nat) (s : List Value), st = .ref r :: s ∧ f r s := by
  unfold pR at h; split at h
  · exact ⟨_, _, rfl, h⟩
  · exact h.elim
theorem pA_e {st : List Value} {f : Value → List Value → Prop} (h : pA st f) : ∃ x s, st = x :: s ∧ ((∃ r, x = .ref r) ∨ x = .null ∨ ∃ q, x = .retAddr q) ∧ f x s := by
  unfold pA at h; split at h
  · exact ⟨_, _, rfl, Or.inl ⟨_, rfl⟩, h⟩
  · exact ⟨_, _, rfl, Or.inr (Or.inl rfl), h⟩
  · exact ⟨_, _, rfl, Or.inr (Or.inr ⟨_, rfl⟩), h⟩
  · exact h.elim
theorem pN_e {st : List Value} {f : Option Nat → List Value → Prop} (h : pN st f) : ∃ x s, st = rv x :: s ∧ f x s := by
  unfold pN at h; split at h
  · exact ⟨_, _, rfl, h⟩
  · exact ⟨_, _, rfl, h⟩
  · exact h.elim
theorem p1_e {st : List Value} {f : Value → List Value → Prop} (h : p1 st f) : ∃ x s, st = x :: s ∧ x.category = 1 ∧ f x s := by
  unfold p1 at h; split at h
  · exact ⟨_, _, rfl, rfl, h⟩
  · exact ⟨_, _, rfl, rfl, h⟩
  · exact ⟨_, _, rfl, rfl, h⟩
  · exact ⟨_, _, rfl, rfl, h⟩
  · exact h.elim
/-- a place of an array of kind k -/
def okA (h : hp) (r k : Nat) (i : Int32) : Prop := 16 ≤ r ∧ r < hN h ∧ (hK h r).1 = k ∧ vp_in i (hK h r).2
/-- the same, of an own cell -/
def okB (h : hp) (r k : Nat) (i : Int32) : Prop := 33 ≤ r ∧ r < hN h ∧ (hK h r).1 = k ∧ vp_in i (hK h r).2
def okQ (h : hp) (r : Nat) (i : Int32) : Prop := 16 ≤ r ∧ r < hN h ∧ 23 ≤ (hK h r).1 ∧ (hK h r).1 < 26 ∧ vp_in i (hK h r).2
def okN (h : hp) (r : Nat) : Prop := 16 ≤ r ∧ r < hN h ∧ 20 ≤ (hK h r).1
def okO (h : hp) (r c : Nat) : Prop := 33 ≤ r ∧ r < hN h ∧ (hK h r).1 < 12 ∧ subC (hK h r).1 c = true
def gfO (a b t : Nat) (h : hp) (r : Nat) (K : Value → Prop) : Prop := match a with
  | 30 => r < 16 ∧ K (match b with | 0 => .ref (16 + r) | _ => .int 0)
  | _ => okO h r a ∧ K (rd t h r b)
theorem gfO_e {a b t : Nat} {h : hp} {r : Nat} {K : Value → Prop} (ha : ¬ a = 30) (hg : gfO a b t h r K) : okO h r a ∧ K (rd t h r b) := by
  unfold gfO at hg; split at hg
  · exact absurd rfl ha
  · exact hg
def pfO (a b t : Nat) (st : List Value) (h : hp) (K : List Value → hp → Prop) : Prop := match t with
  | 0 => pI st fun v s => pR s fun r s => okO h r a ∧ K s (sI h r b v)
  | 1 => pJ st fun v s => pR s fun r s => okO h r a ∧ K s (sJ h r b v)
  | 3 => pI st fun v s => pR s fun r s => okO h r a ∧ (v = 0 ∨ v = 1) ∧ K s (sI h r b v)
  | _ => pN st fun v s => pR s fun r s => okO h r a ∧ K s (sR h r b v)
theorem pfO_e {a b t : Nat} {st : List Value} {h : hp} {K : List Value → hp → Prop} (h0 : ¬ t = 0) (h1 : ¬ t = 1) (h3 : ¬ t = 3) (hg : pfO a b t st h K) : pN st fun v s => pR s fun r s => okO h r a ∧ K s (sR h r b v) := by
  unfold pfO at hg; split at hg
  · exact absurd rfl h0
  · exact absurd rfl h1
  · exact absurd rfl h3
  · exact hg
/-- what one instruction asks for, and how it goes on; a, b, t: the class, the field and its type code, or a constant -/
def stp (x : Ins) (L : Lc) (st : List Value) (h : hp) (K : Lc → List Value → hp → Prop) : Prop := match x.1 with
  | .iconst n => K L (.int (lit n) :: st) h
  | .bipush n => K L (.int (lit n) :: st) h
  | .sipush n => K L (.int (lit n) :: st) h
  | .lconst n => K L (.long (Int64.ofNat n.val) :: st) h
  | .aconst_null => K L (.null :: st) h
  | .ldc _ => match x.2.1 with
    | 0 => K L (.int (Int32.ofNat x.2.2.1) :: st) h
    | _ => K L (.ref x.2.2.1 :: st) h
  | .ldc_w _ => match x.2.1 with
    | 0 => K L (.int (Int32.ofNat x.2.2.1) :: st) h
    | _ => False
  | .ldc2_w _ => match x.2.1 with
    | 0 => K L (.long (Int64.ofNat x.2.2.1) :: st) h
    | _ => K L (.long (-(Int64.ofNat x.2.2.1)) :: st) h
  | .iload_n k => onI (gL L k.val) fun v => K L (.int v :: st) h
  | .iload k => onI (gL L k) fun v => K L (.int v :: st) h
  | .lload_n k => onJ (gL L k.val) fun v => K L (.long v :: st) h
  | .lload k => onJ (gL L k) fun v => K L (.long v :: st) h
  | .aload_n k => onA (gL L k.val) fun v => K L (v :: st) h
  | .aload k => onA (gL L k) fun v => K L (v :: st) h
  | .istore_n k => pI st fun v s => K (st1 L k.val (.int v)) s h
  | .istore k => pI st fun v s => K (st1 L k (.int v)) s h
  | .lstore_n k => pJ st fun v s => K (st2 L k.val (.long v)) s h
  | .lstore k => pJ st fun v s => K (st2 L k (.long v)) s h
  | .astore_n k => pR st fun v s => K (st1 L k.val (.ref v)) s h
  | .astore k => pR st fun v s => K (st1 L k (.ref v)) s h
  | .iinc k n => onI (gL L k) fun v => K (st1 L k (.int (v + lit n))) st h
  | .iadd => pII st fun x y s => K L (.int (x + y) :: s) h
  | .isub => pII st fun x y s => K L (.int (x - y) :: s) h
  | .imul => pII st fun x y s => K L (.int (x * y) :: s) h
  | .idiv => pII st fun x y s => ¬ y = 0 ∧ K L (.int (x / y) :: s) h
  | .irem => pII st fun x y s => ¬ y = 0 ∧ K L (.int (x - x / y * y) :: s) h
  | .ineg => pI st fun x s => K L (.int (-x) :: s) h
  | .iand => pII st fun x y s => K L (.int (x &&& y) :: s) h
  | .ior => pII st fun x y s => K L (.int (x ||| y) :: s) h
  | .ixor => pII st fun x y s => K L (.int (x ^^^ y) :: s) h
  | .ishl => pII st fun x y s => K L (.int (x <<< (y &&& 31)) :: s) h
  | .ishr => pII st fun x y s => K L (.int (x >>> (y &&& 31)) :: s) h
  | .iushr => pII st fun x y s => K L (.int (x.toUInt32 >>> (y.toUInt32 &&& Int32.toUInt32 31)).toInt32 :: s) h
  | .lsub => pJJ st fun x y s => K L (.long (x - y) :: s) h
  | .land => pJJ st fun x y s => K L (.long (x &&& y) :: s) h
  | .lor => pJJ st fun x y s => K L (.long (x ||| y) :: s) h
  | .lxor => pJJ st fun x y s => K L (.long (x ^^^ y) :: s) h
  | .lshl => pJI st fun x y s => K L (.long (x <<< (y.toInt64 &&& 63)) :: s) h
  | .lshr => pJI st fun x y s => K L (.long (x >>> (y.toInt64 &&& 63)) :: s) h
  | .lushr => pJI st fun x y s => K L (.long (x.toUInt64 >>> (y.toInt64.toUInt64 &&& Int64.toUInt64 63)).toInt64 :: s) h
  | .lcmp => pJJ st fun x y s => K L (.int (lg_cmp x y) :: s) h
  | .i2l => pI st fun x s => K L (.long x.toInt64 :: s) h
  | .l2i => pJ st fun x s => K L (.int x.toInt32 :: s) h
  | .i2b => pI st fun x s => K L (.int x.toInt8.toInt32 :: s) h
  | .i2s => pI st fun x s => K L (.int x.toInt16.toInt32 :: s) h
  | .i2c => pI st fun x s => K L (.int (x.toUInt32 % 65536).toInt32 :: s) h
  | .dup => p1 st fun v s => K L (v :: v :: s) h
  | .dup2 => p1 st fun v s => p1 s fun u s => K L (v :: u :: v :: u :: s) h
  | .pop => p1 st fun _ s => K L s h
  | .arraylength => pR st fun r s => okN h r ∧ K L (.int (Int32.ofNat (hK h r).2) :: s) h
  | .iaload => pI st fun i s => pR s fun r s => okA h r 20 i ∧ K L (.int (hI h r i.toNatClampNeg) :: s) h
  | .laload => pI st fun i s => pR s fun r s => okA h r 21 i ∧ K L (.long (hL h r i.toNatClampNeg) :: s) h
  | .baload => pI st fun i s => pR s fun r s => okA h r 22 i ∧ K L (.int (hI h r i.toNatClampNeg) :: s) h
  | .aaload => pI st fun i s => pR s fun r s => okQ h r i ∧ K L (rv (hR h r i.toNatClampNeg) :: s) h
  | .iastore => pI st fun v s => pI s fun i s => pR s fun r s => okB h r 20 i ∧ K L s (sI h r i.toNatClampNeg v)
  | .bastore => pI st fun v s => pI s fun i s => pR s fun r s => okB h r 22 i ∧ K L s (sI h r i.toNatClampNeg v.toInt8.toInt32)
  | .lastore => pJ st fun v s => pI s fun i s => pR s fun r s => okB h r 21 i ∧ K L s (sJ h r i.toNatClampNeg v)
  | .getfield _ => pR st fun r s => gfO x.2.1 x.2.2.1 x.2.2.2 h r fun v => K L (v :: s) h
  | .putfield _ => pfO x.2.1 x.2.2.1 x.2.2.2 st h fun s h => K L s h
  | .getstatic _ => match x.2.1 with
    | 0 => K L (.int 1 :: st) h
    | _ => K L (.retAddr 0 :: st) h
  | _ => False
def run : List Ins → Lc → List Value → hp → (Lc → List Value → hp → Prop) → Prop
  | [], L, st, h, K => K L st h
  | x :: t, L, st, h, K => stp x L st h fun L st h => run t L st h K
/-- how long an instruction is -/
def il (i : Instr) : Nat := match i with
  | .bipush _ | .ldc _ | .iload _ | .lload _ | .aload _ | .istore _ | .lstore _ | .astore _ => 2
  | .sipush _ | .ldc_w _ | .ldc2_w _ | .iinc _ _ | .getfield _ | .putfield _ | .getstatic _ => 3
  | _ => 1
