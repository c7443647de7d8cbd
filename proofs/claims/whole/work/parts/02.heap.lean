/-! A small machine over the kit's: cells by number, ints, longs and references apart; what a straight stretch of bytecode does, as one formula. -/
abbrev Mt : Type := MethodName × ByteArray × Nat × Option FieldType
abbrev hp : Type := (Nat × Nat) × (Nat → Nat × Nat) × (Nat → Nat → Int32) × (Nat → Nat → Int64) × (Nat → Nat → Option Nat)
def hN (h : hp) : Nat := h.1.1
def hZ (h : hp) : Nat := h.1.2
def hK (h : hp) : Nat → Nat × Nat := h.2.1
def hI (h : hp) : Nat → Nat → Int32 := h.2.2.1
def hL (h : hp) : Nat → Nat → Int64 := h.2.2.2.1
def hR (h : hp) : Nat → Nat → Option Nat := h.2.2.2.2
def up2 {α : Type} (f : Nat → Nat → α) (a i : Nat) (v : α) : Nat → Nat → α := fun b j => if b = a then (if j = i then v else f b j) else f b j
theorem up2_s {α : Type} {f : Nat → Nat → α} {a i : Nat} {v : α} : up2 f a i v a i = v := by simp [up2]
theorem up2_o {α : Type} {f : Nat → Nat → α} {a i b j : Nat} {v : α} (h : b ≠ a) : up2 f a i v b j = f b j := by simp [up2, h]
theorem up2_n {α : Type} {f : Nat → Nat → α} {a i b j : Nat} {v : α} (h : j ≠ i) : up2 f a i v b j = f b j := by
  by_cases e : b = a <;> simp [up2, e, h]
def sI (h : hp) (a i : Nat) (v : Int32) : hp := (h.1, h.2.1, up2 h.2.2.1 a i v, h.2.2.2)
def sJ (h : hp) (a i : Nat) (v : Int64) : hp := (h.1, h.2.1, h.2.2.1, up2 h.2.2.2.1 a i v, h.2.2.2.2)
def sR (h : hp) (a i : Nat) (v : Option Nat) : hp := (h.1, h.2.1, h.2.2.1, h.2.2.2.1, up2 h.2.2.2.2 a i v)
/-- a new cell of kind k and n places, all blank -/
def mkC (h : hp) (k n : Nat) : hp := ((hN h + 1, hZ h + n), (fun r => if r = hN h then (k, n) else hK h r), (fun r j => if r = hN h then 0 else hI h r j), (fun r j => if r = hN h then 0 else hL h r j), fun r j => if r = hN h then none else hR h r j)
def rv (q : Option Nat) : Value := match q with
  | none => .null
  | some r => .ref r
/-- what lies in a place, by the code of its type: 0 int, 1 long, else a reference -/
def rd (t : Nat) (h : hp) (r j : Nat) : Value := match t with
  | 0 => .int (hI h r j)
  | 1 => .long (hL h r j)
  | _ => rv (hR h r j)
/-- the world: launch, where own cells begin, the heap at the start, where the special cells lie, classes, their fields' slots, the formatter -/
abbrev Wd : Type := Launch × Nat × Heap × (Nat → Nat) × (Nat → ClassId) × (Nat → Nat → Nat) × Option Nat
def wL (w : Wd) : Launch := w.1
def wB (w : Wd) : Nat := w.2.1
def wH (w : Wd) : Heap := w.2.2.1
def wA (w : Wd) : Nat → Nat := w.2.2.2.1
def wC (w : Wd) : Nat → ClassId := w.2.2.2.2.1
def wI (w : Wd) : Nat → Nat → Nat := w.2.2.2.2.2.1
def wF (w : Wd) : Option Nat := w.2.2.2.2.2.2
def adr (w : Wd) (r : Nat) : Nat := if r < 33 then wA w r else wB w + (r - 33)
def cv (w : Wd) (v : Value) : Value := match v with
  | .ref r => .ref (adr w r)
  | .retAddr _ => rv (wF w)
  | x => x
theorem cv_cat (w : Wd) (v : Value) : (cv w v).category = v.category := by
  cases v <;> try rfl
  unfold cv rv
  cases wF w <;> rfl
/-- kinds of arrays -/
def ety (k : Nat) : FieldType := match k with
  | 20 => .int
  | 21 => .long
  | 22 => .byte
  | 23 => .array .int
  | 24 => .array .long
  | _ => .object "java/lang/String"
def etc (k : Nat) : Nat := match k with
  | 20 => 0
  | 21 => 1
  | 22 => 0
  | _ => 2
