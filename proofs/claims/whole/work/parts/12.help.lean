/-! Rows for the methods' pictures. -/
theorem ite_t {α : Type} {p : Prop} [Decidable p] {a b z : α} (h : (if p then a else b) = z) (q : p) : a = z := by rw [if_pos q] at h; exact h
theorem ite_f {α : Type} {p : Prop} [Decidable p] {a b z : α} (h : (if p then a else b) = z) (q : ¬ p) : b = z := by rw [if_neg q] at h; exact h
theorem nz_e {y : Int32} (h : (!(decide (y = 0))) = true) : ¬ y = 0 := by simpa using h
def ushr (x y : Int32) : Int32 := (x.toUInt32 >>> (y.toUInt32 &&& Int32.toUInt32 31)).toInt32
def lushr (x : Int64) (y : Int32) : Int64 := (x.toUInt64 >>> (y.toInt64.toUInt64 &&& Int64.toUInt64 63)).toInt64
def msk : List Bool → Lc → Lc
  | b :: bs, x :: t => (bif b then x else none) :: msk bs t
  | _, _ => []
theorem msk_e : ∀ {bs : List Bool} {L : Lc} {i : Nat} {v : Value}, gL (msk bs L) i = some v → gL L i = some v
  | [], [], _, _, h => by cases h
  | [], x :: t, _, _, h => by cases h
  | b :: bs, [], _, _, h => by cases h
  | true :: bs, x :: t, 0, _, h => h
  | false :: bs, x :: t, 0, _, h => by cases h
  | b :: bs, x :: t, i + 1, _, h => msk_e (bs := bs) (L := t) h
theorem J.mask {w : Wd} {d : Nat} {m : Mt} {g : En} {pc : Nat} {L : Lc} {st : List Value} {h : hp} (bs : List Bool) (k : J w d m g pc (msk bs L) st h) : J w d m g pc L st h := J.low (fun _ _ z => msk_e z) k
