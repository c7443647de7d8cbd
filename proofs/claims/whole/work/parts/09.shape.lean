/-! The cells that the two constructors make; what may change in them: ints and longs. -/
def tK (r : Nat) : Nat × Nat := (bif Nat.blt r 127 then (bif Nat.blt r 48 then (bif Nat.blt r 25 then (bif Nat.blt r 19 then (bif Nat.blt r 17 then (bif Nat.blt r 16 then (30, 0) else (22, 4)) else (bif Nat.blt r 18 then (22, 2) else (22, 4))) else (bif Nat.blt r 23 then (bif Nat.blt r 22 then (22, 5) else (22, 4)) else (bif Nat.blt r 24 then (22, 3) else (22, 4)))) else (bif Nat.blt r 32 then (bif Nat.blt r 28 then (bif Nat.blt r 26 then (22, 3) else (22, 5)) else (bif Nat.blt r 30 then (22, 2) else (22, 3))) else (bif Nat.blt r 34 then (bif Nat.blt r 33 then (20, 0) else (0, 9)) else (bif Nat.blt r 35 then (1, 9) else (bif Nat.blt r 36 then (23, 12) else (20, 2)))))) else (bif Nat.blt r 82 then (bif Nat.blt r 74 then (bif Nat.blt r 69 then (bif Nat.blt r 49 then (23, 20) else (20, 8)) else (bif Nat.blt r 70 then (23, 4) else (20, 3))) else (bif Nat.blt r 77 then (bif Nat.blt r 75 then (2, 7) else (20, 8)) else (bif Nat.blt r 80 then (20, 100) else (bif Nat.blt r 81 then (20, 6) else (1, 9))))) else (bif Nat.blt r 116 then (bif Nat.blt r 95 then (bif Nat.blt r 83 then (23, 12) else (20, 2)) else (bif Nat.blt r 96 then (23, 20) else (20, 8))) else (bif Nat.blt r 121 then (bif Nat.blt r 117 then (23, 4) else (20, 3)) else (bif Nat.blt r 122 then (2, 7) else (bif Nat.blt r 124 then (20, 8) else (20, 100))))))) else (bif Nat.blt r 163 then (bif Nat.blt r 139 then (bif Nat.blt r 132 then (bif Nat.blt r 129 then (bif Nat.blt r 128 then (20, 6) else (3, 8)) else (bif Nat.blt r 130 then (2, 7) else (20, 8))) else (bif Nat.blt r 136 then (bif Nat.blt r 135 then (20, 100) else (22, 200)) else (bif Nat.blt r 138 then (20, 200) else (4, 12)))) else (bif Nat.blt r 146 then (bif Nat.blt r 144 then (bif Nat.blt r 142 then (20, 40) else (21, 40)) else (bif Nat.blt r 145 then (20, 40) else (20, 12))) else (bif Nat.blt r 159 then (bif Nat.blt r 147 then (23, 12) else (20, 12)) else (bif Nat.blt r 160 then (5, 6) else (bif Nat.blt r 162 then (20, 4) else (24, 4)))))) else (bif Nat.blt r 199 then (bif Nat.blt r 191 then (bif Nat.blt r 170 then (bif Nat.blt r 167 then (21, 40) else (20, 4)) else (bif Nat.blt r 171 then (23, 20) else (20, 3))) else (bif Nat.blt r 194 then (bif Nat.blt r 192 then (11, 35) else (20, 358)) else (bif Nat.blt r 196 then (20, 200) else (bif Nat.blt r 198 then (25, 6) else (20, 9))))) else (bif Nat.blt r 203 then (bif Nat.blt r 201 then (bif Nat.blt r 200 then (20, 8) else (20, 40)) else (bif Nat.blt r 202 then (21, 40) else (20, 40))) else (bif Nat.blt r 206 then (bif Nat.blt r 205 then (20, 12) else (20, 60)) else (bif Nat.blt r 207 then (20, 160) else (bif Nat.blt r 212 then (20, 4) else (20, 30))))))))
def lk : List (Option Nat) → Nat → Option Nat
  | [], _ => none
  | x :: _, 0 => x
  | _ :: t, k + 1 => lk t k
/-- t things made, n ints in the script, the things' kinds, the latest thing -/
abbrev cx : Type := Nat × Nat × (Nat → Nat) × Option Nat
abbrev hs : Type := (Nat → Nat → Int32) × (Nat → Nat → Int64)
def tR (lt : Option Nat) (r k : Nat) : Option Nat := (bif Nat.blt r 122 then (bif Nat.blt r 74 then (bif Nat.blt r 36 then (bif Nat.blt r 34 then (bif Nat.blt r 33 then (none) else (lk [some 34, some 81, some 128, some 138, some 159, some 170, none, none, lt] k)) else (bif Nat.blt r 35 then (lk [some 35, some 48, some 69, some 74, some 80, none, none, none, none] k) else (some (36 + k)))) else (bif Nat.blt r 49 then (bif Nat.blt r 48 then (none) else (some (49 + k))) else (bif Nat.blt r 69 then (none) else (bif Nat.blt r 70 then (some (70 + k)) else (none))))) else (bif Nat.blt r 95 then (bif Nat.blt r 81 then (bif Nat.blt r 75 then (lk [some 75, some 76, some 77, some 78, some 79, none, none] k) else (none)) else (bif Nat.blt r 82 then (lk [some 82, some 95, some 116, some 121, some 127, none, none, none, none] k) else (bif Nat.blt r 83 then (some (83 + k)) else (none)))) else (bif Nat.blt r 116 then (bif Nat.blt r 96 then (some (96 + k)) else (none)) else (bif Nat.blt r 117 then (some (117 + k)) else (bif Nat.blt r 121 then (none) else (lk [some 122, some 123, some 124, some 125, some 126, none, none] k)))))) else (bif Nat.blt r 160 then (bif Nat.blt r 138 then (bif Nat.blt r 129 then (bif Nat.blt r 128 then (none) else (lk [some 129, some 135, none, some 136, some 137, none, none, none] k)) else (bif Nat.blt r 130 then (lk [some 130, some 131, some 132, some 133, some 134, none, none] k) else (none))) else (bif Nat.blt r 146 then (bif Nat.blt r 139 then (lk [some 139, some 140, some 141, some 142, some 143, some 144, some 145, some 146, none, none, none, none] k) else (none)) else (bif Nat.blt r 147 then (some (147 + k)) else (bif Nat.blt r 159 then (none) else (lk [some 160, some 161, some 162, some 167, some 168, some 169] k))))) else (bif Nat.blt r 191 then (bif Nat.blt r 163 then (bif Nat.blt r 162 then (none) else (some (163 + k))) else (bif Nat.blt r 170 then (none) else (bif Nat.blt r 171 then (some (171 + k)) else (none)))) else (bif Nat.blt r 196 then (bif Nat.blt r 192 then (lk [some 192, some 193, none, none, some 194, none, none, none, none, none, none, some 195, none, some 196, some 197, some 198, some 199, some 200, some 201, some 202, some 203, some 204, some 205, none, some 206, some 207, some 208, some 209, some 210, some 211, some 212, none, none, none, none] k) else (none)) else (bif Nat.blt r 197 then (some (6 + k)) else (bif Nat.blt r 198 then (some k) else (none)))))))
def K0 (c : cx) (r : Nat) : Nat × Nat := bif Nat.blt r 213 then (bif Nat.beq r 32 then (20, c.2.1) else tK r) else (bif Nat.beq (r % 2) 1 then (c.2.2.1 r, 4) else (20, 30))
def R0 (c : cx) (r k : Nat) : Option Nat := bif Nat.blt r 213 then tR c.2.2.2 r k else (bif Nat.beq (r % 2) 1 && Nat.beq k 2 then some (r + 1) else none)
def mk (c : cx) (S : hs) : hp := ((213 + 2 * c.1, 4364 + 34 * c.1), K0 c, S.1, S.2, R0 c)
def gI (S : hs) (a i : Nat) : Int32 := S.1 a i
def gJ (S : hs) (a i : Nat) : Int64 := S.2 a i
def uI (S : hs) (a i : Nat) (v : Int32) : hs := (up2 S.1 a i v, S.2)
def uJ (S : hs) (a i : Nat) (v : Int64) : hs := (S.1, up2 S.2 a i v)
def inb (i : Int32) (n : Nat) : Bool := !(decide (i < 0)) && Nat.blt i.toNatClampNeg n
theorem blt_e {a b : Nat} (h : Nat.blt a b = true) : a < b := Nat.le_of_ble_eq_true h
def isB (x : Int32) : Bool := decide (x = 0) || decide (x = 1)
theorem isB_e {x : Int32} (h : isB x = true) : x = 0 ∨ x = 1 := by simpa [isB] using h
theorem isB_n {x : Int32} (h : isB x = true) : narrow .boolean (.int x) = .int x := by rcases isB_e h with rfl | rfl <;> rfl
theorem inb_in {i : Int32} {n : Nat} (h : inb i n = true) : vp_in i n := by
  unfold inb at h
  simp only [Bool.and_eq_true, Bool.not_eq_true', decide_eq_false_iff_not] at h
  have h2 : i.toNatClampNeg < n := blt_e h.2
  exact fun z => z.elim h.1 (fun q => Nat.lt_irrefl _ (Nat.lt_of_lt_of_le h2 q))
theorem inb_lt {i : Int32} {n : Nat} (h : inb i n = true) : i.toNatClampNeg < n := Nat.not_le.mp fun q => inb_in h (Or.inr q)
theorem kN {c : cx} {S : hs} {r : Nat} (h : r < 213) : r < hN (mk c S) := Nat.lt_of_lt_of_le h (Nat.le_add_right _ _)
theorem kK {c : cx} {S : hs} {r : Nat} (h : r < 213) (h2 : r ≠ 32) : hK (mk c S) r = tK r := by
  show K0 c r = tK r
  unfold K0
  have e1 : Nat.blt r 213 = true := Nat.ble_eq_true_of_le h
  have e2 : Nat.beq r 32 = false := by cases hb : Nat.beq r 32 with | false => rfl | true => exact absurd (Nat.eq_of_beq_eq_true hb) h2
  rw [e1, e2]
  rfl
theorem okO_st {c : cx} {S : hs} {r a : Nat} (h : (Nat.ble 33 r && Nat.blt r 213 && Nat.blt (tK r).1 12 && subC (tK r).1 a) = true) : okO (mk c S) r a := by
  simp only [Bool.and_eq_true] at h
  obtain ⟨⟨⟨h1, h2⟩, h3⟩, h4⟩ := h
  have h1 := Nat.le_of_ble_eq_true h1
  refine ⟨h1, kN (blt_e h2), ?_, ?_⟩ <;> rw [kK (blt_e h2) (by omega)]
  · exact blt_e h3
  · exact h4
theorem isC_st {c : cx} {S : hs} {r : Nat} {C : String} (h : (Nat.ble 33 r && Nat.blt r 213 && Nat.blt (tK r).1 12) = true) (hC : cN (tK r).1 = C) : isC (mk c S) r C := by
  simp only [Bool.and_eq_true] at h
  obtain ⟨⟨h1, h2⟩, h3⟩ := h
  have h1 := Nat.le_of_ble_eq_true h1
  refine Or.inl ⟨h1, kN (blt_e h2), ?_, ?_⟩ <;> rw [kK (blt_e h2) (by omega)]
  · exact blt_e h3
  · exact hC
/-- rows b, b + 1 .. of one kind and size -/
def rws (b cnt k n : Nat) : Bool := Nat.ble 33 b && Nat.ble (b + cnt) 213 && (List.range cnt).all fun j => Nat.beq (tK (b + j)).1 k && Nat.beq (tK (b + j)).2 n
theorem rws_e {c : cx} {S : hs} {b cnt k n j : Nat} (h : rws b cnt k n = true) (hj : j < cnt) : 33 ≤ b + j ∧ b + j < hN (mk c S) ∧ hK (mk c S) (b + j) = (k, n) := by
  unfold rws at h
  simp only [Bool.and_eq_true] at h
  obtain ⟨⟨h1, h2⟩, h3⟩ := h
  have h1 := Nat.le_of_ble_eq_true h1
  have h2 := Nat.le_of_ble_eq_true h2
  have h4 := List.all_eq_true.mp h3 j (List.mem_range.mpr hj)
  simp only [Bool.and_eq_true] at h4
  refine ⟨by omega, kN (by omega), ?_⟩
  rw [kK (by omega) (by omega)]
  exact Prod.ext (Nat.eq_of_beq_eq_true h4.1) (Nat.eq_of_beq_eq_true h4.2)
theorem okB_st {c : cx} {S : hs} {r k n : Nat} {i : Int32} (h : rws r 1 k n = true) (hi : inb i n = true) : okB (mk c S) r k i := by
  obtain ⟨h1, h2, h3⟩ := rws_e (c := c) (S := S) h (j := 0) (by decide)
  rw [Nat.add_zero] at h1 h2 h3
  exact ⟨h1, h2, by rw [h3], by rw [h3]; exact inb_in hi⟩
theorem okA_st {c : cx} {S : hs} {r k n : Nat} {i : Int32} (h : rws r 1 k n = true) (hi : inb i n = true) : okA (mk c S) r k i := by
  obtain ⟨h1, h2, h3, h4⟩ := okB_st (c := c) (S := S) h hi
  exact ⟨by omega, h2, h3, h4⟩
theorem okB_row {c : cx} {S : hs} {b cnt k n j : Nat} {i : Int32} (h : rws b cnt k n = true) (hj : j < cnt) (hi : inb i n = true) : okB (mk c S) (b + j) k i := by
  obtain ⟨h1, h2, h3⟩ := rws_e (c := c) (S := S) h hj
  exact ⟨h1, h2, by rw [h3], by rw [h3]; exact inb_in hi⟩
theorem okA_row {c : cx} {S : hs} {b cnt k n j : Nat} {i : Int32} (h : rws b cnt k n = true) (hj : j < cnt) (hi : inb i n = true) : okA (mk c S) (b + j) k i := by
  obtain ⟨h1, h2, h3, h4⟩ := okB_row (c := c) (S := S) h hj hi
  exact ⟨by omega, h2, h3, h4⟩
theorem okQ_st {c : cx} {S : hs} {r k n : Nat} {i : Int32} (h : rws r 1 k n = true) (hk : (Nat.ble 23 k && Nat.blt k 26) = true) (hi : inb i n = true) : okQ (mk c S) r i := by
  obtain ⟨h1, h2, h3, h4⟩ := okB_st (c := c) (S := S) h hi
  simp only [Bool.and_eq_true] at hk
  exact ⟨by omega, h2, by rw [h3]; exact Nat.le_of_ble_eq_true hk.1, by rw [h3]; exact blt_e hk.2, h4⟩
theorem okN_st {c : cx} {S : hs} {r k n : Nat} (h : rws r 1 k n = true) (hk : Nat.ble 20 k = true) : okN (mk c S) r := by
  obtain ⟨h1, h2, h3⟩ := rws_e (c := c) (S := S) h (j := 0) (by decide)
  rw [Nat.add_zero] at h1 h2 h3
  exact ⟨by omega, h2, by rw [h3]; exact Nat.le_of_ble_eq_true hk⟩
theorem okN_row {c : cx} {S : hs} {b cnt k n j : Nat} (h : rws b cnt k n = true) (hk : Nat.ble 20 k = true) (hj : j < cnt) : okN (mk c S) (b + j) := by
  obtain ⟨h1, h2, h3⟩ := rws_e (c := c) (S := S) h hj
  exact ⟨by omega, h2, by rw [h3]; exact Nat.le_of_ble_eq_true hk⟩
/-! the pieces that the methods' pictures are made of -/
def ck {α : Type} (b : Bool) (k : Option α) : Option α := bif b then k else none
theorem ck_e {α : Type} {b : Bool} {k : Option α} {z : α} (h : ck b k = some z) : b = true ∧ k = some z := by
  cases b with
  | false => cases h
  | true => exact ⟨rfl, h⟩
def bd {α β : Type} (o : Option (α × hs)) (k : α → hs → Option β) : Option β := match o with
  | none => none
  | some x => k x.1 x.2
theorem bd_e {α β : Type} {o : Option (α × hs)} {k : α → hs → Option β} {z : β} (h : bd o k = some z) : ∃ (r : α) (S : hs), o = some (r, S) ∧ k r S = some z := by
  cases o with
  | none => cases h
  | some x => exact ⟨x.1, x.2, rfl, h⟩
theorem some_e {α : Type} {x z : α} (h : some x = some z) : z = x := (Option.some.inj h).symm
theorem tsO {x : Int32} {lo hi : Int} (h : ∀ k : Int, lo ≤ k → k ≤ hi → ¬ x.toInt = k) : x.toInt < lo ∨ hi < x.toInt := by
  by_cases h1 : x.toInt < lo
  · exact Or.inl h1
  · by_cases h2 : hi < x.toInt
    · exact Or.inr h2
    · exact absurd rfl (h x.toInt (by omega) (by omega))
