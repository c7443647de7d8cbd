/-! What a clause's steps push: the class's bits of a long. -/
def vlF (f : Nat → Int32) (x : Int32) : Int32 := if (x - (10000 : Int32)) < 0 then x else if (6 : Int32) ≤ (x - (10000 : Int32)) then x else f (x - (10000 : Int32)).toNatClampNeg
def cmV (op l r : Int32) : Bool := if op = 0 then !decide (r ≤ l) else if op = 1 then decide (l = r) else !decide (l ≤ r)
def stC (f : Nat → Int32) (x : Int64) (s : Int32 × Int32 × Int32) : Int64 := if s.1 = 3 then x ^^^ (1 : Int64) else if s.1 = 4 then (lushr x (1 : Int32)) &&& (x ||| (-2 : Int64)) else if s.1 = 5 then (lushr x (1 : Int32)) ||| (x &&& (1 : Int64)) else (x <<< ((1 : Int32).toInt64 &&& 63)) ||| (if cmV s.1 (vlF f s.2.1) (vlF f s.2.2) = true then (1 : Int32).toInt64 else (0 : Int32).toInt64)
def evC (f : Nat → Int32) (x : Int64) (L : List (Int32 × Int32 × Int32)) : Int64 := L.foldl (stC f) x
def PushC (b : Nat) (L : List (Int32 × Int32 × Int32)) (v : (Nat → Int32) → Bool) : Prop := ∀ f x, jb (evC f x L) 0 = v f ∧ ∀ j, j + 1 < b → jb (evC f x L) (j + 1) = jb x j
theorem jb_xor (x y : Int64) (i : Nat) : jb (x ^^^ y) i = (jb x i ^^ jb y i) := BitVec.getLsbD_xor
theorem jb_m2 {i : Nat} (h : i < 64) : jb (-2 : Int64) i = !decide (i = 0) := by
  have e : (-2 : Int64) = (1 : Int64) ^^^ (-1 : Int64) := by decide
  rw [e, jb_not _ h, jb_1]
theorem jb_sl (x : Int64) (i : Nat) (h : i + 1 < 64) : jb (x <<< ((1 : Int32).toInt64 &&& 63)) (i + 1) = jb x i := by
  have e : (x <<< ((iN 1).toInt64 &&& 63)).toBitVec = x.toBitVec <<< (((iN 1).toInt64 &&& 63).toBitVec.smod 64) := rfl
  show (x <<< ((iN 1).toInt64 &&& 63)).toBitVec.getLsbD (i + 1) = _
  rw [e, BitVec.shiftLeft_eq', s64 1 (by decide), BitVec.getLsbD_shiftLeft]
  simp [h]
  rfl
theorem jb_sl0 (x : Int64) : jb (x <<< ((1 : Int32).toInt64 &&& 63)) 0 = false := by
  have e : (x <<< ((iN 1).toInt64 &&& 63)).toBitVec = x.toBitVec <<< (((iN 1).toInt64 &&& 63).toBitVec.smod 64) := rfl
  show (x <<< ((iN 1).toInt64 &&& 63)).toBitVec.getLsbD 0 = _
  rw [e, BitVec.shiftLeft_eq', s64 1 (by decide), BitVec.getLsbD_shiftLeft]
  simp
theorem evC_app (f : Nat → Int32) (x : Int64) (L L' : List (Int32 × Int32 × Int32)) : evC f x (L ++ L') = evC f (evC f x L) L' := List.foldl_append
theorem jb_ur1 (x : Int64) (i : Nat) : jb (lushr x (1 : Int32)) i = jb x (1 + i) := jb_ur (u := 1) (by decide) x i
theorem PushC.mono {b b' : Nat} {L : List (Int32 × Int32 × Int32)} {v : (Nat → Int32) → Bool} (h : PushC b L v) (hb : b' ≤ b) : PushC b' L v := fun f x => ⟨(h f x).1, fun j hj => (h f x).2 j (by omega)⟩
theorem PushC.cmp {op : Nat} (ho : op ≤ 2) (a c : Int32) : PushC 64 [(iN op, a, c)] (fun f => cmV (iN op) (vlF f a) (vlF f c)) := fun f x => by
  have e : evC f x [(iN op, a, c)] = (x <<< ((1 : Int32).toInt64 &&& 63)) ||| (if cmV (iN op) (vlF f a) (vlF f c) = true then (1 : Int32).toInt64 else (0 : Int32).toInt64) := by
    show stC f x (iN op, a, c) = _
    unfold stC
    have h3 : ¬ iN op = (3 : Int32) := eq_i (b := 3) (by omega) (by decide) (by omega)
    have h4 : ¬ iN op = (4 : Int32) := eq_i (b := 4) (by omega) (by decide) (by omega)
    have h5 : ¬ iN op = (5 : Int32) := eq_i (b := 5) (by omega) (by decide) (by omega)
    rw [if_neg h3, if_neg h4, if_neg h5]
  have t1 : (1 : Int32).toInt64 = (1 : Int64) := rfl
  have t0 : (0 : Int32).toInt64 = (0 : Int64) := rfl
  rw [e, t1, t0]
  refine ⟨?_, fun j hj => ?_⟩
  · have s := jb_sl0 x
    rw [t1] at s
    rw [jb_or, s, Bool.false_or]
    show _ = cmV (iN op) (vlF f a) (vlF f c)
    cases q : cmV (iN op) (vlF f a) (vlF f c) with
    | true => rw [if_pos rfl, jb_1]; rfl
    | false => rw [if_neg (by decide), jb_0]
  · have s := jb_sl x j hj
    rw [t1] at s
    rw [jb_or, s]
    cases cmV (iN op) (vlF f a) (vlF f c) with
    | true => rw [if_pos rfl, jb_1, decide_eq_false (by omega), Bool.or_false]
    | false => rw [if_neg (by decide), jb_0, Bool.or_false]
theorem PushC.neg {b : Nat} {L : List (Int32 × Int32 × Int32)} {v : (Nat → Int32) → Bool} (h : PushC b L v) : PushC b (L ++ [(3, 0, 0)]) (fun f => !v f) := fun f x => by
  obtain ⟨h1, h2⟩ := h f x
  have e : evC f x (L ++ [(3, 0, 0)]) = evC f x L ^^^ (1 : Int64) := by rw [evC_app]; rfl
  rw [e]
  refine ⟨?_, fun j hj => ?_⟩
  · rw [jb_xor, h1, jb_1]; exact Bool.xor_true _
  · rw [jb_xor, h2 j hj, jb_1, decide_eq_false (by omega), Bool.xor_false]
theorem PushC.and {b b1 b2 : Nat} {L1 L2 : List (Int32 × Int32 × Int32)} {v1 v2 : (Nat → Int32) → Bool} (h : PushC b1 L1 v1) (h' : PushC b2 L2 v2) (hb : b ≤ b1) (hb2 : b + 1 ≤ b2) (h64 : b2 ≤ 64) (h2' : 2 ≤ b2) : PushC b (L1 ++ L2 ++ [(4, 0, 0)]) (fun f => v1 f && v2 f) := fun f x => by
  obtain ⟨a1, a2⟩ := h f x
  obtain ⟨c1, c2⟩ := h' f (evC f x L1)
  have e : evC f x (L1 ++ L2 ++ [(4, 0, 0)]) = (lushr (evC f (evC f x L1) L2) (1 : Int32)) &&& (evC f (evC f x L1) L2 ||| (-2 : Int64)) := by rw [evC_app, evC_app]; rfl
  rw [e]
  refine ⟨?_, fun j hj => ?_⟩
  · rw [jb_and, jb_ur1, jb_or, jb_m2 (by decide), c1, c2 0 (by omega), a1]
    simp
  · rw [jb_and, jb_ur1, jb_or, jb_m2 (by omega), decide_eq_false (by omega), Bool.not_false, Bool.or_true, Bool.and_true, Nat.add_comm 1, c2 (j + 1) (by omega), a2 j (by omega)]
theorem PushC.or {b b1 b2 : Nat} {L1 L2 : List (Int32 × Int32 × Int32)} {v1 v2 : (Nat → Int32) → Bool} (h : PushC b1 L1 v1) (h' : PushC b2 L2 v2) (hb : b ≤ b1) (hb2 : b + 1 ≤ b2) (h64 : b2 ≤ 64) (h2' : 2 ≤ b2) : PushC b (L1 ++ L2 ++ [(5, 0, 0)]) (fun f => v1 f || v2 f) := fun f x => by
  obtain ⟨a1, a2⟩ := h f x
  obtain ⟨c1, c2⟩ := h' f (evC f x L1)
  have e : evC f x (L1 ++ L2 ++ [(5, 0, 0)]) = (lushr (evC f (evC f x L1) L2) (1 : Int32)) ||| (evC f (evC f x L1) L2 &&& (1 : Int64)) := by rw [evC_app, evC_app]; rfl
  rw [e]
  refine ⟨?_, fun j hj => ?_⟩
  · rw [jb_or, jb_ur1, jb_and, jb_1, c1, c2 0 (by omega), a1]
    simp
  · rw [jb_or, jb_ur1, jb_and, jb_1, decide_eq_false (by omega), Bool.and_false, Bool.or_false, Nat.add_comm 1, c2 (j + 1) (by omega), a2 j (by omega)]
