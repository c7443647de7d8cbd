/-! Small numbers as ints; the pictures' pieces as equations. -/
def iN (n : Nat) : Int32 := Int32.ofNat n
def bI (b : Bool) : Int32 := bif b then 1 else 0
theorem bI_0 (b : Bool) : (bI b = 0) = (b = false) := by cases b <;> decide
theorem bI_1 (b : Bool) : (bI b = 1) = (b = true) := by cases b <;> decide
theorem bI_B (b : Bool) : isB (bI b) = true := by cases b <;> decide
theorem if_bI {α : Type} (b : Bool) (x y : α) : (if bI b = 0 then x else y) = bif b then y else x := by cases b <;> rfl
theorem bt_t {α : Type} {x y : α} : (bif true then x else y) = x := rfl
theorem bt_f {α : Type} {x y : α} : (bif false then x else y) = y := rfl
theorem bI_t : bI true = 1 := rfl
theorem bI_f : bI false = 0 := rfl
theorem iN_i {n : Nat} (h : n < 2147483648) : (iN n).toInt = (n : Int) := Int32.toInt_ofNat_of_lt h
theorem iN_c {n : Nat} (h : n < 2147483648) : (iN n).toNatClampNeg = n := Int32.toNatClampNeg_ofNat_of_lt h
theorem iN_a (a b : Nat) : iN a + iN b = iN (a + b) := (Int32.ofNat_add a b).symm
theorem iN_m (a b : Nat) : iN a * iN b = iN (a * b) := (Int32.ofNat_mul a b).symm
theorem iN_s {a b : Nat} (h : b ≤ a) : iN a - iN b = iN (a - b) := (Int32.ofNat_sub a b h).symm
theorem iN_1 (a : Nat) : iN a + (1 : Int32) = iN (a + 1) := iN_a a 1
theorem iN_z (a : Nat) : iN a + (0 : Int32) = iN a := iN_a a 0
theorem iN_lt {a b : Nat} (ha : a < 2147483648) (hb : b < 2147483648) : iN a < iN b ↔ a < b := by
  rw [Int32.lt_iff_toInt_lt, iN_i ha, iN_i hb]; omega
theorem iN_le {a b : Nat} (ha : a < 2147483648) (hb : b < 2147483648) : iN a ≤ iN b ↔ a ≤ b := by
  rw [Int32.le_iff_toInt_le, iN_i ha, iN_i hb]; omega
theorem iN_eq {a b : Nat} (ha : a < 2147483648) (hb : b < 2147483648) : iN a = iN b ↔ a = b := by
  constructor
  · intro h
    have := congrArg Int32.toInt h
    rw [iN_i ha, iN_i hb] at this
    omega
  · intro h; rw [h]
theorem if_z {α : Type} {n : Nat} {x y : α} (h : n < 2147483648) : (if iN n = 0 then x else y) = if n = 0 then x else y := by
  by_cases q : n = 0
  · rw [if_pos q, if_pos (by rw [q]; rfl)]
  · rw [if_neg q, if_neg (fun z => by exact q ((iN_eq (b := 0) h (by omega)).mp z))]
theorem iN_b {n k : Nat} (h : n < k) (hk : k ≤ 2147483648) : inb (iN n) k = true := inb_n h hk
theorem iN_of {x : Int32} (h : 0 ≤ x.toInt) : ∃ n : Nat, x = iN n ∧ n < 2147483648 ∧ x.toInt = (n : Int) := by
  refine ⟨x.toInt.toNat, ?_, ?_, by omega⟩
  · apply Int32.toInt_inj.mp
    rw [iN_i (by have := x.toInt_lt; omega)]
    omega
  · have := x.toInt_lt; omega
theorem iN_to {x : Int32} {n : Nat} (hn : n < 2147483648) (h : x.toInt = (n : Int)) : x = iN n := Int32.toInt_inj.mp (by rw [iN_i hn]; exact h)
theorem iN_nn {x : Int32} (h : 0 ≤ x.toInt) : iN x.toNatClampNeg = x := by
  obtain ⟨n, rfl, hn, -⟩ := iN_of h
  rw [iN_c hn]
theorem sh1_i (x : Int32) : (x >>> ((1 : Int32) &&& 31)).toInt = x.toInt / 2 := by
  have h : (x >>> ((1 : Int32) &&& 31)).toBitVec = x.toBitVec.sshiftRight' (((1 : Int32) &&& 31).toBitVec.smod 32) := rfl
  have h1 : ((((1 : Int32) &&& 31).toBitVec.smod 32).toNat) = 1 := by decide
  have h2 : (x >>> ((1 : Int32) &&& 31)).toInt = (x.toBitVec.sshiftRight' (((1 : Int32) &&& 31).toBitVec.smod 32)).toInt := congrArg BitVec.toInt h
  rw [h2, BitVec.toInt_sshiftRight', h1]
  show x.toInt >>> 1 = x.toInt / 2
  rw [Int.shiftRight_eq_div_pow]; rfl
theorem dv2_i (x : Int32) : (x / (2 : Int32)).toInt = x.toInt.tdiv 2 := by
  rw [Int32.toInt_div_of_ne_right _ _ (by decide)]; rfl
theorem iN_sh {u : Nat} (h : u < 2147483648) : iN u >>> ((1 : Int32) &&& 31) = iN (u / 2) := by
  apply iN_to (by omega)
  rw [sh1_i, iN_i h]; omega
theorem iN_d2 {u : Nat} (h : u < 2147483648) : iN u / (2 : Int32) = iN (u / 2) := by
  apply iN_to (by omega)
  rw [dv2_i, iN_i h, Int.tdiv_eq_ediv_of_nonneg (by omega)]; omega
theorem iN_dv {u k : Nat} (h : u < 2147483648) (hk : k < 2147483648) : iN u / iN k = iN (u / k) := (Int32.ofNat_div h hk).symm
theorem iN_r2 {u : Nat} (h : u < 2147483648) : iN u - iN u / (2 : Int32) * (2 : Int32) = iN (u % 2) := by
  rw [iN_d2 h]
  show iN u - iN (u / 2) * iN 2 = _
  rw [iN_m, iN_s (by omega)]
  congr 1; omega
theorem iN_an {u : Nat} (h : u < 64) : iN u &&& (1 : Int32) = iN (u % 2) := by
  have h1 : ∀ u : Nat, u < 64 → iN u &&& (1 : Int32) = iN (u % 2) := by decide +kernel
  exact h1 u h
theorem bd_s {α β : Type} (r : α) (S : hs) (k : α → hs → Option β) : bd (some (r, S)) k = k r S := rfl
theorem ck_t {α : Type} (k : Option α) : ck true k = k := rfl
theorem bd_of {α β : Type} {o : Option (α × hs)} {r : α} {S : hs} {k : α → hs → Option β} (h : o = some (r, S)) : bd o k = k r S := by rw [h]; rfl
theorem ck_of {α : Type} {b : Bool} {k : Option α} (h : b = true) : ck b k = k := by rw [h]; rfl
/-- comparisons, read as numbers -/
theorem lt_y {x y : Int32} {a b : Int} (hx : x.toInt = a) (hy : y.toInt = b) (h : a < b) : x < y := Int32.lt_iff_toInt_lt.mpr (by omega)
theorem lt_n {x y : Int32} {a b : Int} (hx : x.toInt = a) (hy : y.toInt = b) (h : b ≤ a) : ¬ x < y := fun q => by have := Int32.lt_iff_toInt_lt.mp q; omega
theorem le_y {x y : Int32} {a b : Int} (hx : x.toInt = a) (hy : y.toInt = b) (h : a ≤ b) : x ≤ y := Int32.le_iff_toInt_le.mpr (by omega)
theorem le_n {x y : Int32} {a b : Int} (hx : x.toInt = a) (hy : y.toInt = b) (h : b < a) : ¬ x ≤ y := fun q => by have := Int32.le_iff_toInt_le.mp q; omega
/-- cells after a change -/
theorem gI_u {S : hs} {a i b j : Nat} {v : Int32} : gI (uI S a i v) b j = if b = a ∧ j = i then v else gI S b j := by
  show up2 S.1 a i v b j = _
  unfold up2
  by_cases h : b = a
  · by_cases k : j = i
    · rw [if_pos h, if_pos k, if_pos ⟨h, k⟩]
    · rw [if_pos h, if_neg k, if_neg (fun q => k q.2)]; rfl
  · rw [if_neg h, if_neg (fun q => h q.1)]; rfl
theorem gI_us {S : hs} {a i : Nat} {v : Int32} : gI (uI S a i v) a i = v := by rw [gI_u, if_pos ⟨rfl, rfl⟩]
theorem gI_ua {S : hs} {a i b j : Nat} {v : Int32} (h : b ≠ a) : gI (uI S a i v) b j = gI S b j := by rw [gI_u, if_neg (fun q => h q.1)]
theorem gI_un {S : hs} {a i b j : Nat} {v : Int32} (h : j ≠ i) : gI (uI S a i v) b j = gI S b j := by rw [gI_u, if_neg (fun q => h q.2)]
theorem gI_J {S : hs} {a i b j : Nat} {v : Int64} : gI (uJ S a i v) b j = gI S b j := rfl
theorem gJ_I {S : hs} {a i b j : Nat} {v : Int32} : gJ (uI S a i v) b j = gJ S b j := rfl
theorem gJ_u {S : hs} {a i b j : Nat} {v : Int64} : gJ (uJ S a i v) b j = if b = a ∧ j = i then v else gJ S b j := by
  show up2 S.2 a i v b j = _
  unfold up2
  by_cases h : b = a
  · by_cases k : j = i
    · rw [if_pos h, if_pos k, if_pos ⟨h, k⟩]
    · rw [if_pos h, if_neg k, if_neg (fun q => k q.2)]; rfl
  · rw [if_neg h, if_neg (fun q => h q.1)]; rfl
theorem gJ_us {S : hs} {a i : Nat} {v : Int64} : gJ (uJ S a i v) a i = v := by rw [gJ_u, if_pos ⟨rfl, rfl⟩]
theorem gJ_ua {S : hs} {a i b j : Nat} {v : Int64} (h : b ≠ a) : gJ (uJ S a i v) b j = gJ S b j := by rw [gJ_u, if_neg (fun q => h q.1)]
theorem gJ_un {S : hs} {a i b j : Nat} {v : Int64} (h : j ≠ i) : gJ (uJ S a i v) b j = gJ S b j := by rw [gJ_u, if_neg (fun q => h q.2)]
/-- two states that tell the same but at the addresses P -/
def Fr (P : Nat → Prop) (S T : hs) : Prop := ∀ a, ¬ P a → (∀ i, gI T a i = gI S a i) ∧ ∀ i, gJ T a i = gJ S a i
theorem Fr.rfl' {P : Nat → Prop} {S : hs} : Fr P S S := fun _ _ => ⟨fun _ => rfl, fun _ => rfl⟩
theorem Fr.trans {P : Nat → Prop} {S T U : hs} (h : Fr P S T) (k : Fr P T U) : Fr P S U := fun a q => ⟨fun i => ((k a q).1 i).trans ((h a q).1 i), fun i => ((k a q).2 i).trans ((h a q).2 i)⟩
theorem Fr.mono {P Q : Nat → Prop} {S T : hs} (h : Fr P S T) (q : ∀ a, P a → Q a) : Fr Q S T := fun a k => h a fun z => k (q a z)
theorem Fr.uI {P : Nat → Prop} {S T : hs} {a i : Nat} {v : Int32} (h : Fr P S T) (q : P a) : Fr P S (uI T a i v) := fun b k => ⟨fun j => (gI_ua (fun z : b = a => k (by rw [z]; exact q))).trans ((h b k).1 j), fun j => (h b k).2 j⟩
theorem Fr.uJ {P : Nat → Prop} {S T : hs} {a i : Nat} {v : Int64} (h : Fr P S T) (q : P a) : Fr P S (uJ T a i v) := fun b k => ⟨fun j => (h b k).1 j, fun j => (gJ_ua (fun z : b = a => k (by rw [z]; exact q))).trans ((h b k).2 j)⟩
