/-! Bits counted; the place of one. -/
def ntI (y : Int32) : Int32 := (if 0 < y then (if y ≤ (65536 : Int32) then (if y ≤ (256 : Int32) then (if y ≤ (16 : Int32) then (if y ≤ (4 : Int32) then ((1 : Int32) + (ushr y (1 : Int32))) else (((1 : Int32) + (2 : Int32)) + (ushr (ushr y (2 : Int32)) (1 : Int32)))) else (if (ushr y (4 : Int32)) ≤ (4 : Int32) then (((1 : Int32) + (4 : Int32)) + (ushr (ushr y (4 : Int32)) (1 : Int32))) else ((((1 : Int32) + (4 : Int32)) + (2 : Int32)) + (ushr (ushr (ushr y (4 : Int32)) (2 : Int32)) (1 : Int32))))) else (if (ushr y (8 : Int32)) ≤ (16 : Int32) then (if (ushr y (8 : Int32)) ≤ (4 : Int32) then (((1 : Int32) + (8 : Int32)) + (ushr (ushr y (8 : Int32)) (1 : Int32))) else ((((1 : Int32) + (8 : Int32)) + (2 : Int32)) + (ushr (ushr (ushr y (8 : Int32)) (2 : Int32)) (1 : Int32)))) else (if (ushr (ushr y (8 : Int32)) (4 : Int32)) ≤ (4 : Int32) then ((((1 : Int32) + (8 : Int32)) + (4 : Int32)) + (ushr (ushr (ushr y (8 : Int32)) (4 : Int32)) (1 : Int32))) else (((((1 : Int32) + (8 : Int32)) + (4 : Int32)) + (2 : Int32)) + (ushr (ushr (ushr (ushr y (8 : Int32)) (4 : Int32)) (2 : Int32)) (1 : Int32)))))) else (if (ushr y (16 : Int32)) ≤ (256 : Int32) then (if (ushr y (16 : Int32)) ≤ (16 : Int32) then (if (ushr y (16 : Int32)) ≤ (4 : Int32) then (((1 : Int32) + (16 : Int32)) + (ushr (ushr y (16 : Int32)) (1 : Int32))) else ((((1 : Int32) + (16 : Int32)) + (2 : Int32)) + (ushr (ushr (ushr y (16 : Int32)) (2 : Int32)) (1 : Int32)))) else (if (ushr (ushr y (16 : Int32)) (4 : Int32)) ≤ (4 : Int32) then ((((1 : Int32) + (16 : Int32)) + (4 : Int32)) + (ushr (ushr (ushr y (16 : Int32)) (4 : Int32)) (1 : Int32))) else (((((1 : Int32) + (16 : Int32)) + (4 : Int32)) + (2 : Int32)) + (ushr (ushr (ushr (ushr y (16 : Int32)) (4 : Int32)) (2 : Int32)) (1 : Int32))))) else (if (ushr (ushr y (16 : Int32)) (8 : Int32)) ≤ (16 : Int32) then (if (ushr (ushr y (16 : Int32)) (8 : Int32)) ≤ (4 : Int32) then ((((1 : Int32) + (16 : Int32)) + (8 : Int32)) + (ushr (ushr (ushr y (16 : Int32)) (8 : Int32)) (1 : Int32))) else (((((1 : Int32) + (16 : Int32)) + (8 : Int32)) + (2 : Int32)) + (ushr (ushr (ushr (ushr y (16 : Int32)) (8 : Int32)) (2 : Int32)) (1 : Int32)))) else (if (ushr (ushr (ushr y (16 : Int32)) (8 : Int32)) (4 : Int32)) ≤ (4 : Int32) then (((((1 : Int32) + (16 : Int32)) + (8 : Int32)) + (4 : Int32)) + (ushr (ushr (ushr (ushr y (16 : Int32)) (8 : Int32)) (4 : Int32)) (1 : Int32))) else ((((((1 : Int32) + (16 : Int32)) + (8 : Int32)) + (4 : Int32)) + (2 : Int32)) + (ushr (ushr (ushr (ushr (ushr y (16 : Int32)) (8 : Int32)) (4 : Int32)) (2 : Int32)) (1 : Int32))))))) else (y &&& (32 : Int32)))
def bcI (x0 : Int32) : Int32 := ((((((((x0 - ((ushr x0 (1 : Int32)) &&& (1431655765 : Int32))) &&& (858993459 : Int32)) + ((ushr (x0 - ((ushr x0 (1 : Int32)) &&& (1431655765 : Int32))) (2 : Int32)) &&& (858993459 : Int32))) + (ushr (((x0 - ((ushr x0 (1 : Int32)) &&& (1431655765 : Int32))) &&& (858993459 : Int32)) + ((ushr (x0 - ((ushr x0 (1 : Int32)) &&& (1431655765 : Int32))) (2 : Int32)) &&& (858993459 : Int32))) (4 : Int32))) &&& (252645135 : Int32)) + (ushr (((((x0 - ((ushr x0 (1 : Int32)) &&& (1431655765 : Int32))) &&& (858993459 : Int32)) + ((ushr (x0 - ((ushr x0 (1 : Int32)) &&& (1431655765 : Int32))) (2 : Int32)) &&& (858993459 : Int32))) + (ushr (((x0 - ((ushr x0 (1 : Int32)) &&& (1431655765 : Int32))) &&& (858993459 : Int32)) + ((ushr (x0 - ((ushr x0 (1 : Int32)) &&& (1431655765 : Int32))) (2 : Int32)) &&& (858993459 : Int32))) (4 : Int32))) &&& (252645135 : Int32)) (8 : Int32))) + (ushr ((((((x0 - ((ushr x0 (1 : Int32)) &&& (1431655765 : Int32))) &&& (858993459 : Int32)) + ((ushr (x0 - ((ushr x0 (1 : Int32)) &&& (1431655765 : Int32))) (2 : Int32)) &&& (858993459 : Int32))) + (ushr (((x0 - ((ushr x0 (1 : Int32)) &&& (1431655765 : Int32))) &&& (858993459 : Int32)) + ((ushr (x0 - ((ushr x0 (1 : Int32)) &&& (1431655765 : Int32))) (2 : Int32)) &&& (858993459 : Int32))) (4 : Int32))) &&& (252645135 : Int32)) + (ushr (((((x0 - ((ushr x0 (1 : Int32)) &&& (1431655765 : Int32))) &&& (858993459 : Int32)) + ((ushr (x0 - ((ushr x0 (1 : Int32)) &&& (1431655765 : Int32))) (2 : Int32)) &&& (858993459 : Int32))) + (ushr (((x0 - ((ushr x0 (1 : Int32)) &&& (1431655765 : Int32))) &&& (858993459 : Int32)) + ((ushr (x0 - ((ushr x0 (1 : Int32)) &&& (1431655765 : Int32))) (2 : Int32)) &&& (858993459 : Int32))) (4 : Int32))) &&& (252645135 : Int32)) (8 : Int32))) (16 : Int32))) &&& (63 : Int32))
theorem ite_so {α : Type} {c : Prop} [Decidable c] {a b : α} {S : hs} : (if c then some (a, S) else some (b, S)) = some ((if c then a else b), S) := by split <;> rfl
def ib (x : Int32) (i : Nat) : Bool := x.toBitVec.getLsbD i
theorem ib_ext {x y : Int32} (h : ∀ i, i < 32 → ib x i = ib y i) : x = y := Int32.toBitVec_inj.1 (BitVec.eq_of_getLsbD_eq h)
theorem ib_or (x y : Int32) (i : Nat) : ib (x ||| y) i = (ib x i || ib y i) := BitVec.getLsbD_or
theorem ib_and (x y : Int32) (i : Nat) : ib (x &&& y) i = (ib x i && ib y i) := BitVec.getLsbD_and
theorem ib_0 (i : Nat) : ib 0 i = false := BitVec.getLsbD_zero
theorem ib_not (x : Int32) {i : Nat} (h : i < 32) : ib (x ^^^ (-1 : Int32)) i = !ib x i := by
  have e : x ^^^ (-1 : Int32) = ~~~x := Int32.xor_neg_one
  rw [e]
  show (~~~x.toBitVec).getLsbD i = _
  rw [BitVec.getLsbD_not, decide_eq_true h]; rfl
theorem s32 : ∀ u, u < 32 → ((iN u &&& 31).toBitVec.smod 32).toNat = u := by decide +kernel
theorem ib_sh {u : Nat} (h : u < 32) (i : Nat) : ib ((1 : Int32) <<< (iN u &&& 31)) i = decide (i = u) := by
  have e : ((1 : Int32) <<< (iN u &&& 31)).toBitVec = (1#32) <<< ((iN u &&& 31).toBitVec.smod 32) := rfl
  unfold ib
  rw [e, BitVec.shiftLeft_eq', s32 u h, BitVec.getLsbD_shiftLeft, BitVec.getLsbD_one]
  by_cases z : i = u
  · subst z; simp [h]
  · rw [decide_eq_false z]
    by_cases z2 : i < u
    · simp [z2]
    · have : ¬ (i - u = 0) := by omega
      simp [this]
theorem ib_iN (n i : Nat) (h : i < 32) : ib (iN n) i = n.testBit i := by
  show (BitVec.ofNat 32 n).getLsbD i = _
  rw [BitVec.getLsbD_ofNat, decide_eq_true h]; rfl
theorem odd_e : ∀ (n x : Nat), x < 2 ^ n → 0 < x → ∃ k q : Nat, x = 2 ^ (k + 1) * q + 2 ^ k ∧ k < n := by
  intro n
  induction n with
  | zero => intro x h1 h2; omega
  | succ n ih =>
    intro x h1 h2
    by_cases z : x % 2 = 1
    · exact ⟨0, x / 2, by simp; omega, by omega⟩
    · have e : 2 ^ (n + 1) = 2 * 2 ^ n := by rw [Nat.pow_succ]; omega
      obtain ⟨k, q, h3, h4⟩ := ih (x / 2) (by omega) (by omega)
      refine ⟨k + 1, q, ?_, by omega⟩
      have e1 : 2 ^ (k + 1 + 1) * q = 2 * (2 ^ (k + 1) * q) := by rw [Nat.pow_succ 2 (k + 1), Nat.mul_comm (2 ^ (k + 1)) 2, Nat.mul_assoc]
      have e2 : 2 ^ (k + 1) = 2 * 2 ^ k := by rw [Nat.pow_succ]; omega
      rw [e1]
      omega
theorem ntI_ok : ∀ k, k < 32 → ntI (iN (2 ^ k - 1)) = iN k := by decide +kernel
theorem pI_ntz {S : hs} {x : Int32} (h : x ≠ 0) : ∃ k : Nat, k < 32 ∧ f_It_numberOfTrailingZeros S x = some (iN k, S) ∧ ib x k = true := by
  have hx : 0 < x.toBitVec.toNat := by
    rcases Nat.eq_zero_or_pos x.toBitVec.toNat with z | z
    · exact absurd (Int32.toBitVec_inj.1 (BitVec.eq_of_toNat_eq (by rw [z]; rfl))) h
    · exact z
  obtain ⟨k, q, e, hk⟩ := odd_e 32 x.toBitVec.toNat x.toBitVec.isLt hx
  have p1 : 2 ^ k < 2 ^ (k + 1) := Nat.pow_lt_pow_right (by omega) (by omega)
  have p2 : 0 < 2 ^ k := Nat.pos_of_ne_zero (by simp)
  have bx : ∀ i, i < 32 → ib x i = if i < k + 1 then decide (k = i) else q.testBit (i - (k + 1)) := fun i hi => by
    show x.toBitVec.getLsbD i = _
    rw [BitVec.getLsbD, e, Nat.testBit_two_pow_mul_add _ p1, Nat.testBit_two_pow]
  have x1 : x - (1 : Int32) = iN (2 ^ (k + 1) * q + (2 ^ k - 1)) := by
    have e2 : x = iN x.toBitVec.toNat := Int32.toBitVec_inj.1 (by show x.toBitVec = BitVec.ofNat 32 _; rw [BitVec.ofNat_toNat, BitVec.setWidth_eq])
    rw [e2, e]
    show iN _ - iN 1 = _
    rw [iN_s (by omega)]
    congr 1
    omega
  have key : (x ^^^ (-1 : Int32)) &&& (x - (1 : Int32)) = iN (2 ^ k - 1) := by
    apply ib_ext
    intro i hi
    rw [ib_and, ib_not x hi, bx i hi, x1, ib_iN _ _ hi, ib_iN _ _ hi, Nat.testBit_two_pow_mul_add _ (show 2 ^ k - 1 < 2 ^ (k + 1) by omega), Nat.testBit_two_pow_sub_one]
    by_cases z : i < k + 1
    · rw [if_pos z, if_pos z]
      by_cases z2 : k = i
      · have : ¬ i < k := by omega
        simp [this]
      · have : i < k := by omega
        simp [z2, this]
    · have : ¬ i < k := by omega
      rw [if_neg z, if_neg z]
      simp [this]
  refine ⟨k, hk, ?_, ?_⟩
  · unfold f_It_numberOfTrailingZeros
    rw [key, ← ntI_ok k hk]
    unfold ntI
    simp only [ite_so]
  · rw [bx k hk, if_pos (by omega)]; simp
theorem ib_j (x : Int64) {i : Nat} (h : i < 32) : ib x.toInt32 i = jb x i := by
  have e : x.toInt32.toBitVec = x.toBitVec.signExtend 32 := rfl
  unfold ib jb
  rw [e, BitVec.getLsbD_signExtend, decide_eq_true h, if_pos (by omega)]; rfl
theorem pJ_ntz {S : hs} {x : Int64} (h : x ≠ 0) : ∃ k : Nat, k < 64 ∧ f_Lo_numberOfTrailingZeros S x = some (iN k, S) ∧ jb x k = true := by
  unfold f_Lo_numberOfTrailingZeros
  by_cases z : x.toInt32 = 0
  · rw [if_pos z]
    have hy : (lushr x (32 : Int32)).toInt32 ≠ 0 := by
      intro y
      apply h
      apply jb_ext
      intro i hi
      rw [jb_0]
      by_cases z2 : i < 32
      · rw [← ib_j x z2, z, ib_0]
      · have := ib_j (lushr x (32 : Int32)) (i := i - 32) (by omega)
        rw [y, ib_0, show (32 : Int32) = iN 32 from rfl, jb_ur (by omega), show 32 + (i - 32) = i by omega] at this
        exact this.symm
    obtain ⟨k, h1, h2, h3⟩ := pI_ntz (S := S) hy
    refine ⟨32 + k, by omega, ?_, ?_⟩
    · rw [h2, bd_s]
      show some (iN 32 + iN k, S) = _
      rw [iN_a]
    · rw [ib_j _ h1, show (32 : Int32) = iN 32 from rfl, jb_ur (by omega)] at h3
      exact h3
  · rw [if_neg z]
    obtain ⟨k, h1, h2, h3⟩ := pI_ntz (S := S) z
    refine ⟨k, by omega, by rw [h2, bd_s], ?_⟩
    rw [ib_j x h1] at h3; exact h3
theorem lg0 (x y : Int64) : ((lg_cmp x y) = 0) ↔ x = y := by
  unfold lg_cmp
  constructor
  · intro h
    split at h
    · rename_i z; exact absurd h (by decide)
    · split at h
      · rename_i z; exact z
      · exact absurd h (by decide)
  · intro h; subst h
    simp
/-- counting -/
def cnt (p : Nat → Bool) : Nat → Nat
  | 0 => 0
  | n + 1 => cnt p n + (if p n = true then 1 else 0)
theorem cnt_le (p : Nat → Bool) : ∀ n, cnt p n ≤ n
  | 0 => Nat.le_refl 0
  | n + 1 => by
    have := cnt_le p n
    rw [cnt]
    split <;> omega
theorem cnt_mono {p q : Nat → Bool} : ∀ {n : Nat}, (∀ x, x < n → p x = true → q x = true) → cnt p n ≤ cnt q n
  | 0, _ => Nat.le_refl 0
  | n + 1, h => by
    have := cnt_mono (n := n) (p := p) (q := q) (fun x hx => h x (by omega))
    rw [cnt, cnt]
    have h2 := h n (by omega)
    by_cases z : p n = true
    · rw [if_pos z, if_pos (h2 z)]; omega
    · rw [if_neg z]; omega
theorem cnt_lt {p q : Nat → Bool} : ∀ {n : Nat}, (∀ x, x < n → p x = true → q x = true) → (∃ x, x < n ∧ p x = false ∧ q x = true) → cnt p n < cnt q n
  | 0, _, h => by obtain ⟨x, h, -⟩ := h; omega
  | n + 1, h, ⟨x, h1, h2, h3⟩ => by
    rw [cnt, cnt]
    by_cases z : x = n
    · subst z
      have := cnt_mono (n := x) (p := p) (q := q) (fun y hy => h y (by omega))
      rw [if_neg (by rw [h2]; decide), if_pos h3]; omega
    · have := cnt_lt (n := n) (p := p) (q := q) (fun y hy => h y (by omega)) ⟨x, by omega, h2, h3⟩
      have h4 := h n (by omega)
      by_cases z : p n = true
      · rw [if_pos z, if_pos (h4 z)]; omega
      · rw [if_neg z]; omega
theorem cnt_full {p : Nat → Bool} {n : Nat} (h : n ≤ cnt p n) {x : Nat} (hx : x < n) : p x = true := by
  cases z : p x with
  | true => rfl
  | false =>
    have := cnt_lt (p := p) (q := fun _ => true) (n := n) (fun _ _ _ => rfl) ⟨x, hx, z, rfl⟩
    have := cnt_le (fun _ => true) n
    omega
