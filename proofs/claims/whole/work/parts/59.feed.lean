/-! The tape; bits of longs. -/
def jb (x : Int64) (i : Nat) : Bool := x.toBitVec.getLsbD i
theorem jb_ext {x y : Int64} (h : ∀ i, i < 64 → jb x i = jb y i) : x = y := Int64.toBitVec_inj.1 (BitVec.eq_of_getLsbD_eq h)
theorem jb_or (x y : Int64) (i : Nat) : jb (x ||| y) i = (jb x i || jb y i) := BitVec.getLsbD_or
theorem jb_and (x y : Int64) (i : Nat) : jb (x &&& y) i = (jb x i && jb y i) := BitVec.getLsbD_and
theorem jb_0 (i : Nat) : jb 0 i = false := BitVec.getLsbD_zero
theorem jb_big {x : Int64} {i : Nat} (h : 64 ≤ i) : jb x i = false := BitVec.getLsbD_of_ge _ _ h
theorem jb_not (x : Int64) {i : Nat} (h : i < 64) : jb (x ^^^ (-1 : Int64)) i = !jb x i := by
  have e : x ^^^ (-1 : Int64) = ~~~x := Int64.xor_neg_one
  rw [e]
  show (~~~x.toBitVec).getLsbD i = _
  rw [BitVec.getLsbD_not, decide_eq_true h]; rfl
theorem s64 : ∀ u, u < 64 → (((iN u).toInt64 &&& 63).toBitVec.smod 64).toNat = u := by decide +kernel
theorem u64 : ∀ u, u < 64 → (((iN u).toInt64.toUInt64 &&& Int64.toUInt64 63).toBitVec % 64).toNat = u := by decide +kernel
theorem jb_sh {u : Nat} (h : u < 64) (i : Nat) : jb ((1 : Int64) <<< ((iN u).toInt64 &&& 63)) i = decide (i = u) := by
  have e : ((1 : Int64) <<< ((iN u).toInt64 &&& 63)).toBitVec = (1#64) <<< (((iN u).toInt64 &&& 63).toBitVec.smod 64) := rfl
  unfold jb
  rw [e, BitVec.shiftLeft_eq', s64 u h, BitVec.getLsbD_shiftLeft, BitVec.getLsbD_one]
  by_cases z : i = u
  · subst z; simp [h]
  · rw [decide_eq_false z]
    by_cases z2 : i < u
    · simp [z2]
    · have : ¬ (i - u = 0) := by omega
      simp [this]
theorem jb_sr {u : Nat} (h : u < 64) (x : Int64) (i : Nat) (hi : u + i < 64) : jb (x >>> ((iN u).toInt64 &&& 63)) i = jb x (u + i) := by
  have e : (x >>> ((iN u).toInt64 &&& 63)).toBitVec = x.toBitVec.sshiftRight' (((iN u).toInt64 &&& 63).toBitVec.smod 64) := rfl
  unfold jb
  rw [e, BitVec.getLsbD_sshiftRight', s64 u h, if_pos hi]
  simp; omega
theorem jb_ur {u : Nat} (h : u < 64) (x : Int64) (i : Nat) : jb (lushr x (iN u)) i = jb x (u + i) := by
  have e : (lushr x (iN u)).toBitVec = x.toBitVec >>> (((iN u).toInt64.toUInt64 &&& Int64.toUInt64 63).toBitVec % 64) := rfl
  unfold jb
  rw [e, BitVec.ushiftRight_eq', u64 u h, BitVec.getLsbD_ushiftRight]
theorem jb_1 (i : Nat) : jb 1 i = decide (i = 0) := by
  show (1#64).getLsbD i = _
  rw [BitVec.getLsbD_one]; simp
/-- a test of a bit, on both sides -/
theorem pX_isIn {S : hs} {x : Int64} {u : Nat} (h : u < 64) : f_X_isIn S x (iN u) = some (bI (jb x u), S) := by
  have e : (lushr x (iN u)) &&& (1 : Int64) = if jb x u = true then 1 else 0 := by
    apply jb_ext
    intro i hi
    rw [jb_and, jb_ur h, jb_1]
    by_cases z : i = 0
    · subst z
      cases q : jb x u <;> simp [q, jb_1, jb_0]
    · cases q : jb x u <;> simp [z, jb_1, jb_0]
  unfold f_X_isIn
  rw [e]
  cases jb x u <;> rfl
theorem pM_hasBit {S : hs} {x : Int64} {u : Nat} (h : u < 64) : f_M_hasBit S x (iN u) = some (bI (jb x u), S) := by
  have e : (x >>> ((iN u).toInt64 &&& 63)) &&& (1 : Int64) = if jb x u = true then 1 else 0 := by
    apply jb_ext
    intro i hi
    rw [jb_and, jb_1]
    by_cases z : i = 0
    · subst z
      rw [jb_sr h x 0 (by omega)]
      cases q : jb x u <;> simp [q, jb_1, jb_0]
    · cases q : jb x u <;> simp [z, jb_1, jb_0]
  unfold f_M_hasBit
  rw [e]
  cases jb x u <;> rfl
theorem bytes_ok (x : Int64) {k : Nat} (hk : k < 8) : ∃ b : Nat, b < 256 ∧ ((x >>> (((8 : Int32) * iN k).toInt64 &&& 63)) &&& (255 : Int64)).toInt32 = iN b ∧ (((lushr x ((8 : Int32) * iN k)).toInt32).toInt8.toInt32).toInt8.toInt32 = (iN b).toInt8.toInt32 := by
  have e8 : (8 : Int32) * iN k = iN (8 * k) := by show iN 8 * iN k = _; rw [iN_m]
  rw [e8]
  refine ⟨(x.toBitVec.toNat >>> (8 * k)) % 256, Nat.mod_lt _ (by decide), ?_, ?_⟩
  · apply Int32.toBitVec_inj.1
    apply BitVec.eq_of_getLsbD_eq
    intro i hi
    have e1 : (((x >>> ((iN (8 * k)).toInt64 &&& 63)) &&& (255 : Int64)).toInt32).toBitVec = ((x >>> ((iN (8 * k)).toInt64 &&& 63)) &&& (255 : Int64)).toBitVec.signExtend 32 := rfl
    have e2 : (iN ((x.toBitVec.toNat >>> (8 * k)) % 256)).toBitVec = BitVec.ofNat 32 ((x.toBitVec.toNat >>> (8 * k)) % 256) := rfl
    have e3 : ∀ i, i < 32 → jb 255 i = decide (i < 8) := by decide +kernel
    rw [e1, e2, BitVec.getLsbD_signExtend, decide_eq_true hi, if_pos (by omega), Bool.true_and]
    show jb _ i = _
    rw [jb_and, e3 i hi, BitVec.getLsbD_ofNat, decide_eq_true hi, Bool.true_and, show (256 : Nat) = 2 ^ 8 from rfl, Nat.testBit_mod_two_pow]
    by_cases z : i < 8
    · rw [jb_sr (by omega) x i (by omega), Nat.testBit_shiftRight, decide_eq_true z, Bool.and_true, Bool.true_and]
      rfl
    · rw [decide_eq_false z, Bool.and_false, Bool.false_and]
  · have e1 : ((lushr x (iN (8 * k))).toInt32).toInt8 = (iN ((x.toBitVec.toNat >>> (8 * k)) % 256)).toInt8 := by
      apply Int8.toBitVec_inj.1
      apply BitVec.eq_of_getLsbD_eq
      intro i hi
      have e1 : (((lushr x (iN (8 * k))).toInt32).toInt8).toBitVec = ((lushr x (iN (8 * k))).toBitVec.signExtend 32).signExtend 8 := rfl
      have e2 : ((iN ((x.toBitVec.toNat >>> (8 * k)) % 256)).toInt8).toBitVec = (BitVec.ofNat 32 ((x.toBitVec.toNat >>> (8 * k)) % 256)).signExtend 8 := rfl
      rw [e1, e2, BitVec.getLsbD_signExtend, BitVec.getLsbD_signExtend, BitVec.getLsbD_signExtend, if_pos (by omega), if_pos (by omega), if_pos (by omega), decide_eq_true hi, decide_eq_true (show i < 32 by omega), Bool.true_and, Bool.true_and, Bool.true_and, BitVec.getLsbD_ofNat, decide_eq_true (show i < 32 by omega), Bool.true_and, show (256 : Nat) = 2 ^ 8 from rfl, Nat.testBit_mod_two_pow, decide_eq_true hi, Bool.true_and, Nat.testBit_shiftRight]
      show jb _ i = _
      rw [jb_ur (by omega)]
      rfl
    rw [e1]
    generalize (iN ((x.toBitVec.toNat >>> (8 * k)) % 256)).toInt8 = y
    rw [Int8.toInt8_toInt32]
section
variable {k : cx} {S S1 S2 T : hs} {m m' : Nat → Int32} {l : Lz}
theorem pX_takeIn_l {x : Int64} {n c : Nat} (hc : c ≤ 8) (hn : n + c ≤ 200) : ∀ (r k f : Nat) (T : hs), gI T 128 2 = iN (n + k) → k + r = c → r < f → ∃ U, lp_R_takeIn_3 x (iN c) f T (iN k) = some (iN (n + c), U) ∧ (∀ a i, gI U a i = if a = 128 ∧ i = 2 then iN (n + c) else if a = 135 ∧ n + k ≤ i ∧ i < n + c then (((lushr x ((8 : Int32) * iN (i - n))).toInt32).toInt8.toInt32).toInt8.toInt32 else gI T a i) ∧ ∀ a i, gJ U a i = gJ T a i := by
  intro r
  induction r with
  | zero =>
    intro k f T hT hk hf
    obtain ⟨f, rfl⟩ : ∃ q, f = q + 1 := ⟨f - 1, by omega⟩
    refine ⟨T, ?_, fun a i => ?_, fun _ _ => rfl⟩
    · rw [lp_R_takeIn_3, if_pos ((iN_le (by omega) (by omega)).mpr (by omega)), hT, show k = c by omega]
    · by_cases z : a = 128 ∧ i = 2
      · obtain ⟨rfl, rfl⟩ := z
        rw [if_pos ⟨rfl, rfl⟩, hT, show k = c by omega]
      · rw [if_neg z, if_neg (by omega)]
  | succ r ih =>
    intro k f T hT hk hf
    obtain ⟨f, rfl⟩ : ∃ q, f = q + 1 := ⟨f - 1, by omega⟩
    rw [lp_R_takeIn_3, if_neg (fun z => by have := (iN_le (by omega) (by omega)).mp z; omega), hT, if_neg (le_n tl200 (iN_i (by omega)) (by omega)), ck_of (iN_b (by omega) (by decide)), iN_c (by omega), gI_ua (by omega), hT, iN_1, iN_1]
    obtain ⟨U, h1, h2, h3⟩ := ih (k + 1) f (uI (uI T 135 (n + k) ((((lushr x ((8 : Int32) * iN k)).toInt32).toInt8.toInt32).toInt8.toInt32)) 128 2 (iN (n + k + 1))) (by rw [gI_us]; congr 1) (by omega) (by omega)
    refine ⟨U, h1, fun a i => ?_, fun a i => (h3 a i).trans rfl⟩
    rw [h2, gI_u, gI_u]
    by_cases z : a = 128 ∧ i = 2
    · rw [if_pos z, if_pos z]
    · rw [if_neg z, if_neg z, if_neg z]
      by_cases z1 : a = 135
      · by_cases z2 : n + (k + 1) ≤ i ∧ i < n + c
        · rw [if_pos ⟨z1, z2⟩, if_pos ⟨z1, by omega⟩]
        · rw [if_neg (fun y => z2 y.2)]
          by_cases z3 : i = n + k
          · rw [if_pos ⟨z1, z3⟩, if_pos ⟨z1, by omega⟩, z3, Nat.add_sub_cancel_left]
          · rw [if_neg (fun y => z3 y.2), if_neg (fun y => by omega)]
      · rw [if_neg (fun y => z1 y.1), if_neg (fun y => z1 y.1), if_neg (fun y => z1 y.1)]
theorem pM_feed_l {x : Int64} {n c : Nat} (hc : c ≤ 8) (hn : n + c ≤ 200) : ∀ (r k f : Nat) (T : hs), gI T 191 5 = iN (n + k) → k + r = c → r < f → ∃ U, lp_M_feed_30 x (iN c) f T (iN k) = some (iN (n + c), U) ∧ (∀ a i, gI U a i = if a = 191 ∧ i = 5 then iN (n + c) else if a = 194 ∧ n + k ≤ i ∧ i < n + c then ((x >>> (((8 : Int32) * iN (i - n)).toInt64 &&& 63)) &&& (255 : Int64)).toInt32 else gI T a i) ∧ ∀ a i, gJ U a i = gJ T a i := by
  intro r
  induction r with
  | zero =>
    intro k f T hT hk hf
    obtain ⟨f, rfl⟩ : ∃ q, f = q + 1 := ⟨f - 1, by omega⟩
    refine ⟨T, ?_, fun a i => ?_, fun _ _ => rfl⟩
    · rw [lp_M_feed_30, if_pos ((iN_le (by omega) (by omega)).mpr (by omega)), hT, show k = c by omega]
    · by_cases z : a = 191 ∧ i = 5
      · obtain ⟨rfl, rfl⟩ := z
        rw [if_pos ⟨rfl, rfl⟩, hT, show k = c by omega]
      · rw [if_neg z, if_neg (by omega)]
  | succ r ih =>
    intro k f T hT hk hf
    obtain ⟨f, rfl⟩ : ∃ q, f = q + 1 := ⟨f - 1, by omega⟩
    rw [lp_M_feed_30, if_neg (fun z => by have := (iN_le (by omega) (by omega)).mp z; omega), hT, ck_of (iN_b (by omega) (by decide)), iN_c (by omega), gI_ua (by omega), hT, iN_1, iN_1]
    obtain ⟨U, h1, h2, h3⟩ := ih (k + 1) f (uI (uI T 194 (n + k) (((x >>> (((8 : Int32) * iN k).toInt64 &&& 63)) &&& (255 : Int64)).toInt32)) 191 5 (iN (n + k + 1))) (by rw [gI_us]; congr 1) (by omega) (by omega)
    refine ⟨U, h1, fun a i => ?_, fun a i => (h3 a i).trans rfl⟩
    rw [h2, gI_u, gI_u]
    by_cases z : a = 191 ∧ i = 5
    · rw [if_pos z, if_pos z]
    · rw [if_neg z, if_neg z, if_neg z]
      by_cases z1 : a = 194
      · by_cases z2 : n + (k + 1) ≤ i ∧ i < n + c
        · rw [if_pos ⟨z1, z2⟩, if_pos ⟨z1, by omega⟩]
        · rw [if_neg (fun y => z2 y.2)]
          by_cases z3 : i = n + k
          · rw [if_pos ⟨z1, z3⟩, if_pos ⟨z1, by omega⟩, z3, Nat.add_sub_cancel_left]
          · rw [if_neg (fun y => z3 y.2), if_neg (fun y => by omega)]
      · rw [if_neg (fun y => z1 y.1), if_neg (fun y => z1 y.1), if_neg (fun y => z1 y.1)]
theorem Inv.tpe (h : Inv k S) (e : ∀ a i, a ≠ 135 → a ≠ 194 → ¬ (a = 128 ∧ i = 2) → ¬ (a = 191 ∧ i = 5) → gI T a i = gI S a i) (f : ∀ a i, gJ T a i = gJ S a i) (hP : IvP T) : Inv k T := by
  obtain ⟨⟨m, l, hc, hn, hlc, hlm⟩, hk, hr, hp, hh, hg, ha, hs, hi⟩ := h
  have e' : ∀ a i, (a < 128 ∨ (135 < a ∧ a < 191) ∨ (a = 191 ∧ i ≠ 5) ∨ a = 192 ∨ a = 193 ∨ 194 < a) → gI T a i = gI S a i := fun a i q => e a i (by omega) (by omega) (by omega) (by omega)
  refine ⟨⟨m, l, ⟨hc.1, hc.2.cg (fun a h1 h2 i => e' a i (by omega)) hc.1.c.2 hc.1.s.2 hc.1.w.2⟩, ⟨hn.1, fun i hi => (e' 192 i (by omega)).trans (hn.2 i hi)⟩, hlc.cg (e' _ _ (by omega)) (fun i _ => e' _ _ (by omega)) (fun i _ => e' _ _ (by omega)) (fun i _ => e' _ _ (by omega)) (fun i _ => e' _ _ (by omega)) (fun i _ => e' _ _ (by omega)), hlm⟩, hk.cg (fun a i q => e' a i (by omega)), hr.cg (fun a i q => e' a i (by omega)), hP, hh.cg (fun a i q => e' a i (by omega)) (fun a i q1 q2 => f a i), hg.cg (fun a i q => e' a i (by omega)), ha.cg (fun a i q => e' a i (by omega)), hs.cg (fun a i q1 q2 => e' a i (by omega)), (e' 191 3 (by omega)).trans hi⟩
theorem q_feed (h : Inv k S) (x : Int64) (c : Int32) : Q2 k S (f_X_feed S x c) (fun T => f_M_feed T x c) := by
  obtain ⟨n, hn, p1, p2, p3⟩ := h.2.2.2.1
  by_cases q : 1 ≤ c.toInt ∧ c.toInt ≤ 8
  · obtain ⟨c, rfl, hc, ec⟩ := iN_of (show 0 ≤ c.toInt by omega)
    have x0 : f_X_feed S x (iN c) = (if iN (n + c) ≤ (200 : Int32) then bd (f_R_takeIn S x (iN c)) fun r4 S5 => some (r4, S5) else some ((-2 : Int32), S)) := by
      unfold f_X_feed
      rw [if_neg (lt_n rfl tl1 (by omega)), if_pos (le_y rfl tl8 (by omega)), p1, iN_a]
    have m0 : ∀ S, gI S 191 5 = iN n → f_M_feed S x (iN c) = (if iN (n + c) ≤ (200 : Int32) then lp_M_feed_30 x (iN c) 1000 S (0 : Int32) else some ((-2 : Int32), S)) := by
      intro S e
      unfold f_M_feed
      rw [in_y tl1 tl8 q, bd_s, if_neg (by decide), e, iN_a]
    by_cases q2 : n + c ≤ 200
    · obtain ⟨S1, a1, a2, a3⟩ := pX_takeIn_l (x := x) (n := n) (c := c) (by omega) q2 c 0 1000 S (by rw [p1, Nat.add_zero]) (by omega) (by omega)
      have e1 : ∀ a i, a ≠ 135 → ¬ (a = 128 ∧ i = 2) → gI S1 a i = gI S a i := fun a i z1 z2 => by rw [a2, if_neg z2, if_neg (fun y => z1 y.1)]
      obtain ⟨S2, b1, b2, b3⟩ := pM_feed_l (x := x) (n := n) (c := c) (by omega) q2 c 0 1000 S1 (by rw [e1 _ _ (by omega) (by omega), p2, Nat.add_zero]) (by omega) (by omega)
      refine ⟨iN (n + c), S1, S2, ?_, ?_, fun j => e1 _ _ (by omega) (by omega), h.tpe (fun a i z1 z2 z3 z4 => by rw [b2, if_neg z4, if_neg (fun y => z2 y.1)]; exact e1 a i z1 z3) (fun a i => (b3 a i).trans (a3 a i)) ⟨n + c, q2, ?_, ?_, fun i hi => ?_⟩⟩
      · rw [x0, if_pos (le_y (iN_i (by omega)) tl200 (by omega))]
        unfold f_R_takeIn
        rw [show (0 : Int32) = iN 0 from rfl, a1, bd_s]
      · show f_M_feed S1 x (iN c) = _
        rw [m0 S1 (by rw [e1 _ _ (by omega) (by omega), p2]), if_pos (le_y (iN_i (by omega)) tl200 (by omega))]
        exact b1
      · rw [b2, if_neg (by omega), if_neg (by omega), a2, if_pos ⟨rfl, rfl⟩]
      · rw [b2, if_pos ⟨rfl, rfl⟩]
      · by_cases z : i < n
        · rw [b2, if_neg (by omega), if_neg (by omega), e1 _ _ (by omega) (by omega), b2, if_neg (by omega), if_neg (by omega), a2, if_neg (by omega), if_neg (by omega)]
          exact p3 i z
        · obtain ⟨b, hb1, hb2, hb3⟩ := bytes_ok x (k := i - n) (by omega)
          refine ⟨b, hb1, ?_, ?_⟩
          · rw [b2, if_neg (by omega), if_pos (by omega)]; exact hb2
          · rw [b2, if_neg (by omega), if_neg (by omega), a2, if_neg (by omega), if_pos (by omega)]; exact hb3
    · refine Q2.same (r := -2) h ?_ ?_
      · rw [x0, if_neg (le_n (iN_i (by omega)) tl200 (by omega))]
      · show f_M_feed S x (iN c) = _
        rw [m0 S p2, if_neg (le_n (iN_i (by omega)) tl200 (by omega))]
  · refine Q2.same (r := -1) h ?_ ?_
    · unfold f_X_feed
      by_cases z : c.toInt < 1
      · rw [if_pos (lt_y rfl tl1 z)]
      · rw [if_neg (lt_n rfl tl1 (by omega)), if_neg (le_n rfl tl8 (by omega))]
    · show f_M_feed S x c = _
      unfold f_M_feed
      rw [in_n tl1 tl8 q, bd_s, if_pos rfl]
end
