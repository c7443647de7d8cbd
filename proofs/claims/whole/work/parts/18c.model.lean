/-! Model -/
def b_M_comeTo_0_6 : List Ins := [(.lconst 1, 0, 0, 0), (.iload_n 1, 0, 0, 0), (.lshl, 0, 0, 0), (.lstore_n 2, 0, 0, 0), (.lconst 0, 0, 0, 0), (.lstore 4, 0, 0, 0)]
theorem k_M_comeTo_0_6 : bok m_M_comeTo 0 b_M_comeTo_0_6 = true := by decide +kernel
def b_M_comeTo_7_3 : List Ins := [(.lload_n 2, 0, 0, 0), (.lload 4, 0, 0, 0), (.lcmp, 0, 0, 0)]
theorem k_M_comeTo_7_3 : bok m_M_comeTo 7 b_M_comeTo_7_3 = true := by decide +kernel
def b_M_comeTo_70_1 : List Ins := [(.lload_n 2, 0, 0, 0)]
theorem k_M_comeTo_70_1 : bok m_M_comeTo 70 b_M_comeTo_70_1 = true := by decide +kernel
def b_M_comeTo_14_10 : List Ins := [(.lload_n 2, 0, 0, 0), (.lload 4, 0, 0, 0), (.ldc2_w 296, 1, 1, 0), (.lxor, 0, 0, 0), (.land, 0, 0, 0), (.lstore 6, 0, 0, 0), (.lload_n 2, 0, 0, 0), (.lstore 4, 0, 0, 0), (.iconst (0), 0, 0, 0), (.istore 8, 0, 0, 0)]
theorem k_M_comeTo_14_10 : bok m_M_comeTo 14 b_M_comeTo_14_10 = true := by decide +kernel
def b_M_comeTo_30_2 : List Ins := [(.iload 8, 0, 0, 0), (.bipush (40), 0, 0, 0)]
theorem k_M_comeTo_30_2 : bok m_M_comeTo 30 b_M_comeTo_30_2 = true := by decide +kernel
def b_M_comeTo_37_3 : List Ins := [(.lload_n 2, 0, 0, 0), (.lload 6, 0, 0, 0), (.iload 8, 0, 0, 0)]
theorem k_M_comeTo_37_3 : bok m_M_comeTo 37 b_M_comeTo_37_3 = true := by decide +kernel
def b_M_comeTo_58_4 : List Ins := [(.lconst 0, 0, 0, 0), (.lor, 0, 0, 0), (.lstore_n 2, 0, 0, 0), (.iinc 8 (1), 0, 0, 0)]
theorem k_M_comeTo_58_4 : bok m_M_comeTo 58 b_M_comeTo_58_4 = true := by decide +kernel
def b_M_comeTo_48_4 : List Ins := [(.aload_n 0, 0, 0, 0), (.getfield 68, 11, 18, 2), (.iload 8, 0, 0, 0), (.laload, 0, 0, 0)]
theorem k_M_comeTo_48_4 : bok m_M_comeTo 48 b_M_comeTo_48_4 = true := by decide +kernel
def b_M_comeTo_59_3 : List Ins := [(.lor, 0, 0, 0), (.lstore_n 2, 0, 0, 0), (.iinc 8 (1), 0, 0, 0)]
theorem k_M_comeTo_59_3 : bok m_M_comeTo 59 b_M_comeTo_59_3 = true := by decide +kernel
theorem d_M_comeTo_11 : decode m_M_comeTo.2.1 11 = .ok (.ifCond .eq (59), 3) := by decide +kernel
theorem d_M_comeTo_71 : decode m_M_comeTo.2.1 71 = .ok (.lreturn, 1) := by decide +kernel
theorem d_M_comeTo_34 : decode m_M_comeTo.2.1 34 = .ok (.if_icmp .ge (33), 3) := by decide +kernel
theorem d_M_comeTo_42 : decode m_M_comeTo.2.1 42 = .ok (.invokestatic 160, 3) := by decide +kernel
theorem d_M_comeTo_45 : decode m_M_comeTo.2.1 45 = .ok (.ifCond .eq (13), 3) := by decide +kernel
theorem d_M_comeTo_64 : decode m_M_comeTo.2.1 64 = .ok (.goto (-34), 3) := by decide +kernel
theorem d_M_comeTo_55 : decode m_M_comeTo.2.1 55 = .ok (.goto (4), 3) := by decide +kernel
theorem d_M_comeTo_67 : decode m_M_comeTo.2.1 67 = .ok (.goto (-60), 3) := by decide +kernel
def lp_M_comeTo_30 (x4 : Int64) (x6 : Int64)  (K0 : hs → Int64 → Int32 → Option (Int64 × hs)) : Nat → hs → Int64 → Int32 → Option (Int64 × hs)
  | 0, _, _, _ => none
  | n + 1, S, x2, x8 => (if (40 : Int32) ≤ x8 then K0 S x2 x8 else bd (f_M_hasBit  S x6 x8) fun r3 S4 => (if r3 = 0 then lp_M_comeTo_30 x4 x6 K0 n S4 (x2 ||| (0 : Int64)) (x8 + (1 : Int32)) else ck (inb x8 40) (lp_M_comeTo_30 x4 x6 K0 n S4 (x2 ||| (gJ S4 201 (x8).toNatClampNeg)) (x8 + (1 : Int32)))))
def lp_M_comeTo_7    : Nat → hs → Int64 → Int64 → Option (Int64 × hs)
  | 0, _, _, _ => none
  | n + 1, S, x2, x4 => (if (lg_cmp x2 x4) = 0 then some (x2, S) else lp_M_comeTo_30 x2 (x2 &&& (x4 ^^^ (-1 : Int64))) (fun (S8 : hs) (y9 : Int64) (y10 : Int32) => lp_M_comeTo_7  n S8 y9 x2) 1000 S x2 (0 : Int32))
def f_M_comeTo  (S : hs) (x1 : Int32) : Option (Int64 × hs) := lp_M_comeTo_7  1000 S ((1 : Int64) <<< (x1.toInt64 &&& 63)) (0 : Int64)
theorem lo_M_comeTo_30 (w : Wd) (d : Nat) (c : cx) {n0 z0 : Nat} {z : Int64 × hs}  {K0 : hs → Int64 → Int32 → Option (Int64 × hs)} (x4 : Int64) (x6 : Int64)   (hK0 : ∀ (S : hs) (x2 : Int64) (x8 : Int32), K0 S x2 x8 = some z → J w (d + 2) m_M_comeTo (n0, z0, some (.long z.1), mk c z.2) 67 [some (.ref 191), none, some (.long x2), none, some (.long x4), none, none, none, none] [] (mk c S)) :
    ∀ (n : Nat) (S : hs) (x2 : Int64) (x8 : Int32), lp_M_comeTo_30 x4 x6 K0 n S x2 x8 = some z → J w (d + 2) m_M_comeTo (n0, z0, some (.long z.1), mk c z.2) 30 [some (.ref 191), none, some (.long x2), none, some (.long x4), none, some (.long x6), none, some (.int x8)] [] (mk c S) := by
  intro n
  induction n with
  | zero => intro S x2 x8 H; cases H
  | succ n ih =>
    intro S x2 x8 H
    rw [lp_M_comeTo_30] at H
    refine J.run b_M_comeTo_30_2 k_M_comeTo_30_2 rfl (show J w (d + 2) m_M_comeTo (n0, z0, some (.long z.1), mk c z.2) 34 [some (.ref 191), none, some (.long x2), none, some (.long x4), none, some (.long x6), none, some (.int x8)] [.int (40 : Int32), .int x8] (mk c S) from ?_)
    refine J.cge (tgt := 67) d_M_comeTo_34 rfl (fun q2 => ?_) (fun q2 => ?_)
    · have H := ite_t H q2
      refine J.mask [true, false, true, false, true, false, false, false, false] ?_
      exact hK0 S x2 x8 H
    · have H := ite_f H q2
      refine J.run b_M_comeTo_37_3 k_M_comeTo_37_3 rfl (show J w (d + 2) m_M_comeTo (n0, z0, some (.long z.1), mk c z.2) 42 [some (.ref 191), none, some (.long x2), none, some (.long x4), none, some (.long x6), none, some (.int x8)] [.int x8, .long x6, .long x2] (mk c S) from ?_)
      obtain ⟨r3, S4, h5, H⟩ := bd_e H
      refine J.callS (y := m_M_hasBit) (av := [.long x6, .int x8]) (rest := [.long x2]) l_M_160 d_M_comeTo_42 (c_M_hasBit w (d + 0) c  S x6 x8 h5) rfl (Nat.le_of_ble_eq_true rfl) ⟨Nat.le_refl _, Nat.le_refl _⟩ (show J w (d + 2) m_M_comeTo (n0, z0, some (.long z.1), mk c z.2) 45 [some (.ref 191), none, some (.long x2), none, some (.long x4), none, some (.long x6), none, some (.int x8)] [.int r3, .long x2] (mk c S4) from ?_)
      refine J.zeq (tgt := 58) d_M_comeTo_45 rfl (fun q6 => ?_) (fun q6 => ?_)
      · have H := ite_t H q6
        refine J.run b_M_comeTo_58_4 k_M_comeTo_58_4 rfl (show J w (d + 2) m_M_comeTo (n0, z0, some (.long z.1), mk c z.2) 64 [some (.ref 191), none, some (.long (x2 ||| (0 : Int64))), none, some (.long x4), none, some (.long x6), none, some (.int (x8 + (1 : Int32)))] [] (mk c S4) from ?_)
        refine J.goto (tgt := 30) d_M_comeTo_64 rfl ?_
        refine J.mask [true, false, true, false, true, false, true, false, true] ?_
        exact ih S4 (x2 ||| (0 : Int64)) (x8 + (1 : Int32)) H
      · have H := ite_f H q6
        obtain ⟨g7, H⟩ := ck_e H
        refine J.run b_M_comeTo_48_4 k_M_comeTo_48_4 rfl (And.intro (okO_st (S := S4) rfl) (And.intro (okA_st (S := S4) (n := 40) rfl g7) (show J w (d + 2) m_M_comeTo (n0, z0, some (.long z.1), mk c z.2) 55 [some (.ref 191), none, some (.long x2), none, some (.long x4), none, some (.long x6), none, some (.int x8)] [.long (gJ S4 201 (x8).toNatClampNeg), .long x2] (mk c S4) from ?_)))
        refine J.goto (tgt := 59) d_M_comeTo_55 rfl ?_
        refine J.run b_M_comeTo_59_3 k_M_comeTo_59_3 rfl (show J w (d + 2) m_M_comeTo (n0, z0, some (.long z.1), mk c z.2) 64 [some (.ref 191), none, some (.long (x2 ||| (gJ S4 201 (x8).toNatClampNeg))), none, some (.long x4), none, some (.long x6), none, some (.int (x8 + (1 : Int32)))] [] (mk c S4) from ?_)
        refine J.goto (tgt := 30) d_M_comeTo_64 rfl ?_
        refine J.mask [true, false, true, false, true, false, true, false, true] ?_
        exact ih S4 (x2 ||| (gJ S4 201 (x8).toNatClampNeg)) (x8 + (1 : Int32)) H
theorem lo_M_comeTo_7 (w : Wd) (d : Nat) (c : cx) {n0 z0 : Nat} {z : Int64 × hs}       :
    ∀ (n : Nat) (S : hs) (x2 : Int64) (x4 : Int64), lp_M_comeTo_7  n S x2 x4 = some z → J w (d + 2) m_M_comeTo (n0, z0, some (.long z.1), mk c z.2) 7 [some (.ref 191), none, some (.long x2), none, some (.long x4), none, none, none, none] [] (mk c S) := by
  intro n
  induction n with
  | zero => intro S x2 x4 H; cases H
  | succ n ih =>
    intro S x2 x4 H
    rw [lp_M_comeTo_7] at H
    refine J.run b_M_comeTo_7_3 k_M_comeTo_7_3 rfl (show J w (d + 2) m_M_comeTo (n0, z0, some (.long z.1), mk c z.2) 11 [some (.ref 191), none, some (.long x2), none, some (.long x4), none, none, none, none] [.int (lg_cmp x2 x4)] (mk c S) from ?_)
    refine J.zeq (tgt := 70) d_M_comeTo_11 rfl (fun q1 => ?_) (fun q1 => ?_)
    · have H := ite_t H q1
      refine J.run b_M_comeTo_70_1 k_M_comeTo_70_1 rfl (show J w (d + 2) m_M_comeTo (n0, z0, some (.long z.1), mk c z.2) 71 [some (.ref 191), none, some (.long x2), none, some (.long x4), none, none, none, none] [.long x2] (mk c S) from ?_)
      obtain rfl := some_e H
      exact J.lret d_M_comeTo_71 rfl rfl
    · have H := ite_f H q1
      refine J.run b_M_comeTo_14_10 k_M_comeTo_14_10 rfl (show J w (d + 2) m_M_comeTo (n0, z0, some (.long z.1), mk c z.2) 30 [some (.ref 191), none, some (.long x2), none, some (.long x2), none, some (.long (x2 &&& (x4 ^^^ (-1 : Int64)))), none, some (.int (0 : Int32))] [] (mk c S) from ?_)
      refine J.mask [true, false, true, false, true, false, true, false, true] ?_
      refine lo_M_comeTo_30 w d c x2 (x2 &&& (x4 ^^^ (-1 : Int64))) ?_ 1000 S x2 (0 : Int32) H
      · intro S8 y9 y10 H
        try dsimp only at H
        refine J.goto (tgt := 7) d_M_comeTo_67 rfl ?_
        refine J.mask [true, false, true, false, true, false, false, false, false] ?_
        exact ih S8 y9 x2 H
theorem c_M_comeTo (w : Wd) (d : Nat) (c : cx)   (S : hs) (x1 : Int32)  {z : Int64 × hs} (H : f_M_comeTo S x1 = some z) : Cl w (d + 2) m_M_comeTo [.ref 191, .int x1] (mk c S) (some (.long z.1)) (mk c z.2) := by
  refine Cl.of (Nat.le_refl _) (Nat.le_refl _) (by decide +kernel) (Nat.le_of_ble_eq_true rfl) ?_
  unfold f_M_comeTo at H
  generalize hN (mk c S) = n0
  generalize hZ (mk c S) = z0
  show J w (d + 2) m_M_comeTo (n0, z0, some (.long z.1), mk c z.2) 0 [some (.ref 191), some (.int x1), none, none, none, none, none, none, none] [] (mk c S)
  refine J.run b_M_comeTo_0_6 k_M_comeTo_0_6 rfl (show J w (d + 2) m_M_comeTo (n0, z0, some (.long z.1), mk c z.2) 7 [some (.ref 191), some (.int x1), some (.long ((1 : Int64) <<< (x1.toInt64 &&& 63))), none, some (.long (0 : Int64)), none, none, none, none] [] (mk c S) from ?_)
  refine J.mask [true, false, true, false, true, false, false, false, false] ?_
  refine lo_M_comeTo_7 w d c   1000 S ((1 : Int64) <<< (x1.toInt64 &&& 63)) (0 : Int64) H
def b_M_endsOf_0_4 : List Ins := [(.iconst (0), 0, 0, 0), (.istore_n 3, 0, 0, 0), (.iconst (0), 0, 0, 0), (.istore 4, 0, 0, 0)]
theorem k_M_endsOf_0_4 : bok m_M_endsOf 0 b_M_endsOf_0_4 = true := by decide +kernel
def b_M_endsOf_5_2 : List Ins := [(.iload 4, 0, 0, 0), (.bipush (40), 0, 0, 0)]
theorem k_M_endsOf_5_2 : bok m_M_endsOf 5 b_M_endsOf_5_2 = true := by decide +kernel
def b_M_endsOf_42_1 : List Ins := [(.iload_n 3, 0, 0, 0)]
theorem k_M_endsOf_42_1 : bok m_M_endsOf 42 b_M_endsOf_42_1 = true := by decide +kernel
def b_M_endsOf_12_3 : List Ins := [(.iload_n 3, 0, 0, 0), (.lload_n 1, 0, 0, 0), (.iload 4, 0, 0, 0)]
theorem k_M_endsOf_12_3 : bok m_M_endsOf 12 b_M_endsOf_12_3 = true := by decide +kernel
def b_M_endsOf_33_4 : List Ins := [(.iconst (0), 0, 0, 0), (.ior, 0, 0, 0), (.istore_n 3, 0, 0, 0), (.iinc 4 (1), 0, 0, 0)]
theorem k_M_endsOf_33_4 : bok m_M_endsOf 33 b_M_endsOf_33_4 = true := by decide +kernel
def b_M_endsOf_22_3 : List Ins := [(.iconst (1), 0, 0, 0), (.aload_n 0, 0, 0, 0), (.iload 4, 0, 0, 0)]
theorem k_M_endsOf_22_3 : bok m_M_endsOf 22 b_M_endsOf_22_3 = true := by decide +kernel
def b_M_endsOf_29_1 : List Ins := [(.ishl, 0, 0, 0)]
theorem k_M_endsOf_29_1 : bok m_M_endsOf 29 b_M_endsOf_29_1 = true := by decide +kernel
def b_M_endsOf_34_3 : List Ins := [(.ior, 0, 0, 0), (.istore_n 3, 0, 0, 0), (.iinc 4 (1), 0, 0, 0)]
theorem k_M_endsOf_34_3 : bok m_M_endsOf 34 b_M_endsOf_34_3 = true := by decide +kernel
theorem d_M_endsOf_9 : decode m_M_endsOf.2.1 9 = .ok (.if_icmp .ge (33), 3) := by decide +kernel
theorem d_M_endsOf_43 : decode m_M_endsOf.2.1 43 = .ok (.ireturn, 1) := by decide +kernel
theorem d_M_endsOf_16 : decode m_M_endsOf.2.1 16 = .ok (.invokestatic 160, 3) := by decide +kernel
theorem d_M_endsOf_19 : decode m_M_endsOf.2.1 19 = .ok (.ifCond .eq (14), 3) := by decide +kernel
theorem d_M_endsOf_39 : decode m_M_endsOf.2.1 39 = .ok (.goto (-34), 3) := by decide +kernel
theorem d_M_endsOf_26 : decode m_M_endsOf.2.1 26 = .ok (.invokevirtual 130, 3) := by decide +kernel
theorem d_M_endsOf_30 : decode m_M_endsOf.2.1 30 = .ok (.goto (4), 3) := by decide +kernel
def lp_M_endsOf_5 (x1 : Int64)   : Nat → hs → Int32 → Int32 → Option (Int32 × hs)
  | 0, _, _, _ => none
  | n + 1, S, x3, x4 => (if (40 : Int32) ≤ x4 then some (x3, S) else bd (f_M_hasBit  S x1 x4) fun r2 S3 => (if r2 = 0 then lp_M_endsOf_5 x1 n S3 (x3 ||| (0 : Int32)) (x4 + (1 : Int32)) else bd (f_M_endOf  S3 x4) fun r6 S7 => lp_M_endsOf_5 x1 n S7 (x3 ||| ((1 : Int32) <<< (r6 &&& 31))) (x4 + (1 : Int32))))
def f_M_endsOf  (S : hs) (x1 : Int64) : Option (Int32 × hs) := lp_M_endsOf_5 x1 1000 S (0 : Int32) (0 : Int32)
theorem lo_M_endsOf_5 (w : Wd) (d : Nat) (c : cx) {n0 z0 : Nat} {z : Int32 × hs}   (x1 : Int64)    :
    ∀ (n : Nat) (S : hs) (x3 : Int32) (x4 : Int32), lp_M_endsOf_5 x1 n S x3 x4 = some z → J w (d + 3) m_M_endsOf (n0, z0, some (.int z.1), mk c z.2) 5 [some (.ref 191), some (.long x1), none, some (.int x3), some (.int x4)] [] (mk c S) := by
  intro n
  induction n with
  | zero => intro S x3 x4 H; cases H
  | succ n ih =>
    intro S x3 x4 H
    rw [lp_M_endsOf_5] at H
    refine J.run b_M_endsOf_5_2 k_M_endsOf_5_2 rfl (show J w (d + 3) m_M_endsOf (n0, z0, some (.int z.1), mk c z.2) 9 [some (.ref 191), some (.long x1), none, some (.int x3), some (.int x4)] [.int (40 : Int32), .int x4] (mk c S) from ?_)
    refine J.cge (tgt := 42) d_M_endsOf_9 rfl (fun q1 => ?_) (fun q1 => ?_)
    · have H := ite_t H q1
      refine J.run b_M_endsOf_42_1 k_M_endsOf_42_1 rfl (show J w (d + 3) m_M_endsOf (n0, z0, some (.int z.1), mk c z.2) 43 [some (.ref 191), some (.long x1), none, some (.int x3), some (.int x4)] [.int x3] (mk c S) from ?_)
      obtain rfl := some_e H
      exact J.iret d_M_endsOf_43 rfl rfl
    · have H := ite_f H q1
      refine J.run b_M_endsOf_12_3 k_M_endsOf_12_3 rfl (show J w (d + 3) m_M_endsOf (n0, z0, some (.int z.1), mk c z.2) 16 [some (.ref 191), some (.long x1), none, some (.int x3), some (.int x4)] [.int x4, .long x1, .int x3] (mk c S) from ?_)
      obtain ⟨r2, S3, h4, H⟩ := bd_e H
      refine J.callS (y := m_M_hasBit) (av := [.long x1, .int x4]) (rest := [.int x3]) l_M_160 d_M_endsOf_16 (c_M_hasBit w (d + 1) c  S x1 x4 h4) rfl (Nat.le_of_ble_eq_true rfl) ⟨Nat.le_refl _, Nat.le_refl _⟩ (show J w (d + 3) m_M_endsOf (n0, z0, some (.int z.1), mk c z.2) 19 [some (.ref 191), some (.long x1), none, some (.int x3), some (.int x4)] [.int r2, .int x3] (mk c S3) from ?_)
      refine J.zeq (tgt := 33) d_M_endsOf_19 rfl (fun q5 => ?_) (fun q5 => ?_)
      · have H := ite_t H q5
        refine J.run b_M_endsOf_33_4 k_M_endsOf_33_4 rfl (show J w (d + 3) m_M_endsOf (n0, z0, some (.int z.1), mk c z.2) 39 [some (.ref 191), some (.long x1), none, some (.int (x3 ||| (0 : Int32))), some (.int (x4 + (1 : Int32)))] [] (mk c S3) from ?_)
        refine J.goto (tgt := 5) d_M_endsOf_39 rfl ?_
        refine J.mask [true, true, false, true, true] ?_
        exact ih S3 (x3 ||| (0 : Int32)) (x4 + (1 : Int32)) H
      · have H := ite_f H q5
        refine J.run b_M_endsOf_22_3 k_M_endsOf_22_3 rfl (show J w (d + 3) m_M_endsOf (n0, z0, some (.int z.1), mk c z.2) 26 [some (.ref 191), some (.long x1), none, some (.int x3), some (.int x4)] [.int x4, .ref 191, .int (1 : Int32), .int x3] (mk c S3) from ?_)
        obtain ⟨r6, S7, h8, H⟩ := bd_e H
        refine J.callV (y := m_M_endOf) (av := [.int x4]) (rest := [.int (1 : Int32), .int x3]) (q := 191) l_M_130 d_M_endsOf_26 (isC_st rfl rfl) (c_M_endOf w (d + 0) c  S3 x4 h8) rfl (Nat.le_of_ble_eq_true rfl) ⟨Nat.le_refl _, Nat.le_refl _⟩ (show J w (d + 3) m_M_endsOf (n0, z0, some (.int z.1), mk c z.2) 29 [some (.ref 191), some (.long x1), none, some (.int x3), some (.int x4)] [.int r6, .int (1 : Int32), .int x3] (mk c S7) from ?_)
        refine J.run b_M_endsOf_29_1 k_M_endsOf_29_1 rfl (show J w (d + 3) m_M_endsOf (n0, z0, some (.int z.1), mk c z.2) 30 [some (.ref 191), some (.long x1), none, some (.int x3), some (.int x4)] [.int ((1 : Int32) <<< (r6 &&& 31)), .int x3] (mk c S7) from ?_)
        refine J.goto (tgt := 34) d_M_endsOf_30 rfl ?_
        refine J.run b_M_endsOf_34_3 k_M_endsOf_34_3 rfl (show J w (d + 3) m_M_endsOf (n0, z0, some (.int z.1), mk c z.2) 39 [some (.ref 191), some (.long x1), none, some (.int (x3 ||| ((1 : Int32) <<< (r6 &&& 31)))), some (.int (x4 + (1 : Int32)))] [] (mk c S7) from ?_)
        refine J.goto (tgt := 5) d_M_endsOf_39 rfl ?_
        refine J.mask [true, true, false, true, true] ?_
        exact ih S7 (x3 ||| ((1 : Int32) <<< (r6 &&& 31))) (x4 + (1 : Int32)) H
theorem c_M_endsOf (w : Wd) (d : Nat) (c : cx)   (S : hs) (x1 : Int64)  {z : Int32 × hs} (H : f_M_endsOf S x1 = some z) : Cl w (d + 3) m_M_endsOf [.ref 191, .long x1] (mk c S) (some (.int z.1)) (mk c z.2) := by
  refine Cl.of (Nat.le_refl _) (Nat.le_refl _) (by decide +kernel) (Nat.le_of_ble_eq_true rfl) ?_
  unfold f_M_endsOf at H
  generalize hN (mk c S) = n0
  generalize hZ (mk c S) = z0
  show J w (d + 3) m_M_endsOf (n0, z0, some (.int z.1), mk c z.2) 0 [some (.ref 191), some (.long x1), none, none, none] [] (mk c S)
  refine J.run b_M_endsOf_0_4 k_M_endsOf_0_4 rfl (show J w (d + 3) m_M_endsOf (n0, z0, some (.int z.1), mk c z.2) 5 [some (.ref 191), some (.long x1), none, some (.int (0 : Int32)), some (.int (0 : Int32))] [] (mk c S) from ?_)
  refine J.mask [true, true, false, true, true] ?_
  refine lo_M_endsOf_5 w d c x1  1000 S (0 : Int32) (0 : Int32) H
def b_M_reach_0_2 : List Ins := [(.aload_n 0, 0, 0, 0), (.iload_n 1, 0, 0, 0)]
theorem k_M_reach_0_2 : bok m_M_reach 0 b_M_reach_0_2 = true := by decide +kernel
def b_M_reach_15_1 : List Ins := [(.iconst (-1), 0, 0, 0)]
theorem k_M_reach_15_1 : bok m_M_reach 15 b_M_reach_15_1 = true := by decide +kernel
def b_M_reach_8_1 : List Ins := [(.iload_n 2, 0, 0, 0)]
theorem k_M_reach_8_1 : bok m_M_reach 8 b_M_reach_8_1 = true := by decide +kernel
def b_M_reach_17_3 : List Ins := [(.aload_n 0, 0, 0, 0), (.iload_n 2, 0, 0, 0), (.iconst (0), 0, 0, 0)]
theorem k_M_reach_17_3 : bok m_M_reach 17 b_M_reach_17_3 = true := by decide +kernel
def b_M_reach_23_3 : List Ins := [(.aload_n 0, 0, 0, 0), (.aload_n 0, 0, 0, 0), (.iload_n 1, 0, 0, 0)]
theorem k_M_reach_23_3 : bok m_M_reach 23 b_M_reach_23_3 = true := by decide +kernel
theorem d_M_reach_2 : decode m_M_reach.2.1 2 = .ok (.invokevirtual 123, 3) := by decide +kernel
theorem d_M_reach_5 : decode m_M_reach.2.1 5 = .ok (.ifCond .eq (10), 3) := by decide +kernel
theorem d_M_reach_16 : decode m_M_reach.2.1 16 = .ok (.ireturn, 1) := by decide +kernel
theorem d_M_reach_9 : decode m_M_reach.2.1 9 = .ok (.invokestatic 175, 3) := by decide +kernel
theorem d_M_reach_12 : decode m_M_reach.2.1 12 = .ok (.ifCond .ne (5), 3) := by decide +kernel
theorem d_M_reach_20 : decode m_M_reach.2.1 20 = .ok (.invokevirtual 280, 3) := by decide +kernel
theorem d_M_reach_26 : decode m_M_reach.2.1 26 = .ok (.invokevirtual 298, 3) := by decide +kernel
theorem d_M_reach_29 : decode m_M_reach.2.1 29 = .ok (.invokevirtual 302, 3) := by decide +kernel
theorem d_M_reach_32 : decode m_M_reach.2.1 32 = .ok (.ireturn, 1) := by decide +kernel
def f_M_reach  (S : hs) (x1 : Int32) (x2 : Int32) : Option (Int32 × hs) := bd (f_M_isCourse  S x1) fun r1 S2 => (if r1 = 0 then some ((-1 : Int32), S2) else bd (f_M_isWidth  S2 x2) fun r5 S6 => (if r5 = 0 then some ((-1 : Int32), S6) else bd (f_M_findOnto  S6 x2 (0 : Int32)) fun r9 S10 => bd (f_M_comeTo  S10 x1) fun r12 S13 => bd (f_M_endsOf  S13 r12) fun r15 S16 => some (r15, S16)))
theorem c_M_reach (w : Wd) (d : Nat) (c : cx)   (S : hs) (x1 : Int32) (x2 : Int32)  {z : Int32 × hs} (H : f_M_reach S x1 x2 = some z) : Cl w (d + 8) m_M_reach [.ref 191, .int x1, .int x2] (mk c S) (some (.int z.1)) (mk c z.2) := by
  refine Cl.of (Nat.le_refl _) (Nat.le_refl _) (by decide +kernel) (Nat.le_of_ble_eq_true rfl) ?_
  unfold f_M_reach at H
  generalize hN (mk c S) = n0
  generalize hZ (mk c S) = z0
  show J w (d + 8) m_M_reach (n0, z0, some (.int z.1), mk c z.2) 0 [some (.ref 191), some (.int x1), some (.int x2)] [] (mk c S)
  refine J.run b_M_reach_0_2 k_M_reach_0_2 rfl (show J w (d + 8) m_M_reach (n0, z0, some (.int z.1), mk c z.2) 2 [some (.ref 191), some (.int x1), some (.int x2)] [.int x1, .ref 191] (mk c S) from ?_)
  obtain ⟨r1, S2, h3, H⟩ := bd_e H
  refine J.callV (y := m_M_isCourse) (av := [.int x1]) (rest := []) (q := 191) l_M_123 d_M_reach_2 (isC_st rfl rfl) (c_M_isCourse w (d + 5) c  S x1 h3) rfl (Nat.le_of_ble_eq_true rfl) ⟨Nat.le_refl _, Nat.le_refl _⟩ (show J w (d + 8) m_M_reach (n0, z0, some (.int z.1), mk c z.2) 5 [some (.ref 191), some (.int x1), some (.int x2)] [.int r1] (mk c S2) from ?_)
  refine J.zeq (tgt := 15) d_M_reach_5 rfl (fun q4 => ?_) (fun q4 => ?_)
  · have H := ite_t H q4
    refine J.run b_M_reach_15_1 k_M_reach_15_1 rfl (show J w (d + 8) m_M_reach (n0, z0, some (.int z.1), mk c z.2) 16 [some (.ref 191), some (.int x1), some (.int x2)] [.int (-1 : Int32)] (mk c S2) from ?_)
    obtain rfl := some_e H
    exact J.iret d_M_reach_16 rfl rfl
  · have H := ite_f H q4
    refine J.run b_M_reach_8_1 k_M_reach_8_1 rfl (show J w (d + 8) m_M_reach (n0, z0, some (.int z.1), mk c z.2) 9 [some (.ref 191), some (.int x1), some (.int x2)] [.int x2] (mk c S2) from ?_)
    obtain ⟨r5, S6, h7, H⟩ := bd_e H
    refine J.callS (y := m_M_isWidth) (av := [.int x2]) (rest := []) l_M_175 d_M_reach_9 (c_M_isWidth w (d + 5) c  S2 x2 h7) rfl (Nat.le_of_ble_eq_true rfl) ⟨Nat.le_refl _, Nat.le_refl _⟩ (show J w (d + 8) m_M_reach (n0, z0, some (.int z.1), mk c z.2) 12 [some (.ref 191), some (.int x1), some (.int x2)] [.int r5] (mk c S6) from ?_)
    refine J.zne (tgt := 17) d_M_reach_12 rfl (fun q8 => ?_) (fun q8 => ?_)
    · have H := ite_f H q8
      refine J.run b_M_reach_17_3 k_M_reach_17_3 rfl (show J w (d + 8) m_M_reach (n0, z0, some (.int z.1), mk c z.2) 20 [some (.ref 191), some (.int x1), some (.int x2)] [.int (0 : Int32), .int x2, .ref 191] (mk c S6) from ?_)
      obtain ⟨r9, S10, h11, H⟩ := bd_e H
      refine J.callV (y := m_M_findOnto) (av := [.int x2, .int (0 : Int32)]) (rest := []) (q := 191) l_M_280 d_M_reach_20 (isC_st rfl rfl) (c_M_findOnto w (d + 0) c  S6 x2 (0 : Int32) h11) rfl (Nat.le_of_ble_eq_true rfl) ⟨Nat.le_refl _, Nat.le_refl _⟩ (show J w (d + 8) m_M_reach (n0, z0, some (.int z.1), mk c z.2) 23 [some (.ref 191), some (.int x1), some (.int x2)] [] (mk c S10) from ?_)
      refine J.run b_M_reach_23_3 k_M_reach_23_3 rfl (show J w (d + 8) m_M_reach (n0, z0, some (.int z.1), mk c z.2) 26 [some (.ref 191), some (.int x1), some (.int x2)] [.int x1, .ref 191, .ref 191] (mk c S10) from ?_)
      obtain ⟨r12, S13, h14, H⟩ := bd_e H
      refine J.callV (y := m_M_comeTo) (av := [.int x1]) (rest := [.ref 191]) (q := 191) l_M_298 d_M_reach_26 (isC_st rfl rfl) (c_M_comeTo w (d + 5) c  S10 x1 h14) rfl (Nat.le_of_ble_eq_true rfl) ⟨Nat.le_refl _, Nat.le_refl _⟩ (show J w (d + 8) m_M_reach (n0, z0, some (.int z.1), mk c z.2) 29 [some (.ref 191), some (.int x1), some (.int x2)] [.long r12, .ref 191] (mk c S13) from ?_)
      obtain ⟨r15, S16, h17, H⟩ := bd_e H
      refine J.callV (y := m_M_endsOf) (av := [.long r12]) (rest := []) (q := 191) l_M_302 d_M_reach_29 (isC_st rfl rfl) (c_M_endsOf w (d + 4) c  S13 r12 h17) rfl (Nat.le_of_ble_eq_true rfl) ⟨Nat.le_refl _, Nat.le_refl _⟩ (show J w (d + 8) m_M_reach (n0, z0, some (.int z.1), mk c z.2) 32 [some (.ref 191), some (.int x1), some (.int x2)] [.int r15] (mk c S16) from ?_)
      obtain rfl := some_e H
      exact J.iret d_M_reach_32 rfl rfl
    · have H := ite_t H q8
      refine J.run b_M_reach_15_1 k_M_reach_15_1 rfl (show J w (d + 8) m_M_reach (n0, z0, some (.int z.1), mk c z.2) 16 [some (.ref 191), some (.int x1), some (.int x2)] [.int (-1 : Int32)] (mk c S6) from ?_)
      obtain rfl := some_e H
      exact J.iret d_M_reach_16 rfl rfl
def b_M_ones_0_4 : List Ins := [(.iconst (0), 0, 0, 0), (.istore_n 2, 0, 0, 0), (.lload_n 0, 0, 0, 0), (.lstore_n 3, 0, 0, 0)]
theorem k_M_ones_0_4 : bok m_M_ones 0 b_M_ones_0_4 = true := by decide +kernel
def b_M_ones_4_3 : List Ins := [(.lload_n 3, 0, 0, 0), (.lconst 0, 0, 0, 0), (.lcmp, 0, 0, 0)]
theorem k_M_ones_4_3 : bok m_M_ones 4 b_M_ones_4_3 = true := by decide +kernel
def b_M_ones_22_1 : List Ins := [(.iload_n 2, 0, 0, 0)]
theorem k_M_ones_22_1 : bok m_M_ones 22 b_M_ones_22_1 = true := by decide +kernel
def b_M_ones_10_7 : List Ins := [(.iinc 2 (1), 0, 0, 0), (.lload_n 3, 0, 0, 0), (.lload_n 3, 0, 0, 0), (.lconst 1, 0, 0, 0), (.lsub, 0, 0, 0), (.land, 0, 0, 0), (.lstore_n 3, 0, 0, 0)]
theorem k_M_ones_10_7 : bok m_M_ones 10 b_M_ones_10_7 = true := by decide +kernel
theorem d_M_ones_7 : decode m_M_ones.2.1 7 = .ok (.ifCond .eq (15), 3) := by decide +kernel
theorem d_M_ones_23 : decode m_M_ones.2.1 23 = .ok (.ireturn, 1) := by decide +kernel
theorem d_M_ones_19 : decode m_M_ones.2.1 19 = .ok (.goto (-15), 3) := by decide +kernel
def lp_M_ones_4    : Nat → hs → Int32 → Int64 → Option (Int32 × hs)
  | 0, _, _, _ => none
  | n + 1, S, x2, x3 => (if (lg_cmp x3 (0 : Int64)) = 0 then some (x2, S) else lp_M_ones_4  n S (x2 + (1 : Int32)) (x3 &&& (x3 - (1 : Int64))))
def f_M_ones  (S : hs) (x0 : Int64) : Option (Int32 × hs) := lp_M_ones_4  1000 S (0 : Int32) x0
theorem lo_M_ones_4 (w : Wd) (d : Nat) (c : cx) {n0 z0 : Nat} {z : Int32 × hs}       :
    ∀ (n : Nat) (S : hs) (x2 : Int32) (x3 : Int64), lp_M_ones_4  n S x2 x3 = some z → J w (d + 1) m_M_ones (n0, z0, some (.int z.1), mk c z.2) 4 [none, none, some (.int x2), some (.long x3), none] [] (mk c S) := by
  intro n
  induction n with
  | zero => intro S x2 x3 H; cases H
  | succ n ih =>
    intro S x2 x3 H
    rw [lp_M_ones_4] at H
    refine J.run b_M_ones_4_3 k_M_ones_4_3 rfl (show J w (d + 1) m_M_ones (n0, z0, some (.int z.1), mk c z.2) 7 [none, none, some (.int x2), some (.long x3), none] [.int (lg_cmp x3 (0 : Int64))] (mk c S) from ?_)
    refine J.zeq (tgt := 22) d_M_ones_7 rfl (fun q1 => ?_) (fun q1 => ?_)
    · have H := ite_t H q1
      refine J.run b_M_ones_22_1 k_M_ones_22_1 rfl (show J w (d + 1) m_M_ones (n0, z0, some (.int z.1), mk c z.2) 23 [none, none, some (.int x2), some (.long x3), none] [.int x2] (mk c S) from ?_)
      obtain rfl := some_e H
      exact J.iret d_M_ones_23 rfl rfl
    · have H := ite_f H q1
      refine J.run b_M_ones_10_7 k_M_ones_10_7 rfl (show J w (d + 1) m_M_ones (n0, z0, some (.int z.1), mk c z.2) 19 [none, none, some (.int (x2 + (1 : Int32))), some (.long (x3 &&& (x3 - (1 : Int64)))), none] [] (mk c S) from ?_)
      refine J.goto (tgt := 4) d_M_ones_19 rfl ?_
      refine J.mask [false, false, true, true, false] ?_
      exact ih S (x2 + (1 : Int32)) (x3 &&& (x3 - (1 : Int64))) H
theorem c_M_ones (w : Wd) (d : Nat) (c : cx)   (S : hs) (x0 : Int64)  {z : Int32 × hs} (H : f_M_ones S x0 = some z) : Cl w (d + 1) m_M_ones [.long x0] (mk c S) (some (.int z.1)) (mk c z.2) := by
  refine Cl.of (Nat.le_refl _) (Nat.le_refl _) (by decide +kernel) (Nat.le_of_ble_eq_true rfl) ?_
  unfold f_M_ones at H
  generalize hN (mk c S) = n0
  generalize hZ (mk c S) = z0
  show J w (d + 1) m_M_ones (n0, z0, some (.int z.1), mk c z.2) 0 [some (.long x0), none, none, none, none] [] (mk c S)
  refine J.run b_M_ones_0_4 k_M_ones_0_4 rfl (show J w (d + 1) m_M_ones (n0, z0, some (.int z.1), mk c z.2) 4 [some (.long x0), none, some (.int (0 : Int32)), some (.long x0), none] [] (mk c S) from ?_)
  refine J.mask [false, false, true, true, false] ?_
  refine lo_M_ones_4 w d c   1000 S (0 : Int32) x0 H
def b_M_pairsBy_0_3 : List Ins := [(.aload_n 0, 0, 0, 0), (.iload_n 1, 0, 0, 0), (.iconst (0), 0, 0, 0)]
theorem k_M_pairsBy_0_3 : bok m_M_pairsBy 0 b_M_pairsBy_0_3 = true := by decide +kernel
def b_M_pairsBy_6_4 : List Ins := [(.iconst (0), 0, 0, 0), (.istore_n 2, 0, 0, 0), (.iconst (0), 0, 0, 0), (.istore_n 3, 0, 0, 0)]
theorem k_M_pairsBy_6_4 : bok m_M_pairsBy 6 b_M_pairsBy_6_4 = true := by decide +kernel
def b_M_pairsBy_10_2 : List Ins := [(.iload_n 3, 0, 0, 0), (.bipush (40), 0, 0, 0)]
theorem k_M_pairsBy_10_2 : bok m_M_pairsBy 10 b_M_pairsBy_10_2 = true := by decide +kernel
def b_M_pairsBy_50_1 : List Ins := [(.iload_n 2, 0, 0, 0)]
theorem k_M_pairsBy_50_1 : bok m_M_pairsBy 50 b_M_pairsBy_50_1 = true := by decide +kernel
def b_M_pairsBy_16_3 : List Ins := [(.iload_n 2, 0, 0, 0), (.aload_n 0, 0, 0, 0), (.iload_n 3, 0, 0, 0)]
theorem k_M_pairsBy_16_3 : bok m_M_pairsBy 16 b_M_pairsBy_16_3 = true := by decide +kernel
def b_M_pairsBy_41_4 : List Ins := [(.iconst (0), 0, 0, 0), (.iadd, 0, 0, 0), (.istore_n 2, 0, 0, 0), (.iinc 3 (1), 0, 0, 0)]
theorem k_M_pairsBy_41_4 : bok m_M_pairsBy 41 b_M_pairsBy_41_4 = true := by decide +kernel
def b_M_pairsBy_25_3 : List Ins := [(.aload_n 0, 0, 0, 0), (.aload_n 0, 0, 0, 0), (.iload_n 3, 0, 0, 0)]
theorem k_M_pairsBy_25_3 : bok m_M_pairsBy 25 b_M_pairsBy_25_3 = true := by decide +kernel
def b_M_pairsBy_34_1 : List Ins := [(.i2l, 0, 0, 0)]
theorem k_M_pairsBy_34_1 : bok m_M_pairsBy 34 b_M_pairsBy_34_1 = true := by decide +kernel
def b_M_pairsBy_42_3 : List Ins := [(.iadd, 0, 0, 0), (.istore_n 2, 0, 0, 0), (.iinc 3 (1), 0, 0, 0)]
theorem k_M_pairsBy_42_3 : bok m_M_pairsBy 42 b_M_pairsBy_42_3 = true := by decide +kernel
theorem d_M_pairsBy_3 : decode m_M_pairsBy.2.1 3 = .ok (.invokevirtual 280, 3) := by decide +kernel
theorem d_M_pairsBy_13 : decode m_M_pairsBy.2.1 13 = .ok (.if_icmp .ge (37), 3) := by decide +kernel
theorem d_M_pairsBy_51 : decode m_M_pairsBy.2.1 51 = .ok (.ireturn, 1) := by decide +kernel
theorem d_M_pairsBy_19 : decode m_M_pairsBy.2.1 19 = .ok (.invokevirtual 123, 3) := by decide +kernel
theorem d_M_pairsBy_22 : decode m_M_pairsBy.2.1 22 = .ok (.ifCond .eq (19), 3) := by decide +kernel
theorem d_M_pairsBy_47 : decode m_M_pairsBy.2.1 47 = .ok (.goto (-37), 3) := by decide +kernel
theorem d_M_pairsBy_28 : decode m_M_pairsBy.2.1 28 = .ok (.invokevirtual 298, 3) := by decide +kernel
theorem d_M_pairsBy_31 : decode m_M_pairsBy.2.1 31 = .ok (.invokevirtual 302, 3) := by decide +kernel
theorem d_M_pairsBy_35 : decode m_M_pairsBy.2.1 35 = .ok (.invokestatic 306, 3) := by decide +kernel
theorem d_M_pairsBy_38 : decode m_M_pairsBy.2.1 38 = .ok (.goto (4), 3) := by decide +kernel
def lp_M_pairsBy_10    : Nat → hs → Int32 → Int32 → Option (Int32 × hs)
  | 0, _, _, _ => none
  | n + 1, S, x2, x3 => (if (40 : Int32) ≤ x3 then some (x2, S) else bd (f_M_isCourse  S x3) fun r5 S6 => (if r5 = 0 then lp_M_pairsBy_10  n S6 (x2 + (0 : Int32)) (x3 + (1 : Int32)) else bd (f_M_comeTo  S6 x3) fun r9 S10 => bd (f_M_endsOf  S10 r9) fun r12 S13 => bd (f_M_ones  S13 (r12.toInt64)) fun r15 S16 => lp_M_pairsBy_10  n S16 (x2 + r15) (x3 + (1 : Int32))))
def f_M_pairsBy  (S : hs) (x1 : Int32) : Option (Int32 × hs) := bd (f_M_findOnto  S x1 (0 : Int32)) fun r1 S2 => lp_M_pairsBy_10  1000 S2 (0 : Int32) (0 : Int32)
theorem lo_M_pairsBy_10 (w : Wd) (d : Nat) (c : cx) {n0 z0 : Nat} {z : Int32 × hs}       :
    ∀ (n : Nat) (S : hs) (x2 : Int32) (x3 : Int32), lp_M_pairsBy_10  n S x2 x3 = some z → J w (d + 8) m_M_pairsBy (n0, z0, some (.int z.1), mk c z.2) 10 [some (.ref 191), none, some (.int x2), some (.int x3)] [] (mk c S) := by
  intro n
  induction n with
  | zero => intro S x2 x3 H; cases H
  | succ n ih =>
    intro S x2 x3 H
    rw [lp_M_pairsBy_10] at H
    refine J.run b_M_pairsBy_10_2 k_M_pairsBy_10_2 rfl (show J w (d + 8) m_M_pairsBy (n0, z0, some (.int z.1), mk c z.2) 13 [some (.ref 191), none, some (.int x2), some (.int x3)] [.int (40 : Int32), .int x3] (mk c S) from ?_)
    refine J.cge (tgt := 50) d_M_pairsBy_13 rfl (fun q4 => ?_) (fun q4 => ?_)
    · have H := ite_t H q4
      refine J.run b_M_pairsBy_50_1 k_M_pairsBy_50_1 rfl (show J w (d + 8) m_M_pairsBy (n0, z0, some (.int z.1), mk c z.2) 51 [some (.ref 191), none, some (.int x2), some (.int x3)] [.int x2] (mk c S) from ?_)
      obtain rfl := some_e H
      exact J.iret d_M_pairsBy_51 rfl rfl
    · have H := ite_f H q4
      refine J.run b_M_pairsBy_16_3 k_M_pairsBy_16_3 rfl (show J w (d + 8) m_M_pairsBy (n0, z0, some (.int z.1), mk c z.2) 19 [some (.ref 191), none, some (.int x2), some (.int x3)] [.int x3, .ref 191, .int x2] (mk c S) from ?_)
      obtain ⟨r5, S6, h7, H⟩ := bd_e H
      refine J.callV (y := m_M_isCourse) (av := [.int x3]) (rest := [.int x2]) (q := 191) l_M_123 d_M_pairsBy_19 (isC_st rfl rfl) (c_M_isCourse w (d + 5) c  S x3 h7) rfl (Nat.le_of_ble_eq_true rfl) ⟨Nat.le_refl _, Nat.le_refl _⟩ (show J w (d + 8) m_M_pairsBy (n0, z0, some (.int z.1), mk c z.2) 22 [some (.ref 191), none, some (.int x2), some (.int x3)] [.int r5, .int x2] (mk c S6) from ?_)
      refine J.zeq (tgt := 41) d_M_pairsBy_22 rfl (fun q8 => ?_) (fun q8 => ?_)
      · have H := ite_t H q8
        refine J.run b_M_pairsBy_41_4 k_M_pairsBy_41_4 rfl (show J w (d + 8) m_M_pairsBy (n0, z0, some (.int z.1), mk c z.2) 47 [some (.ref 191), none, some (.int (x2 + (0 : Int32))), some (.int (x3 + (1 : Int32)))] [] (mk c S6) from ?_)
        refine J.goto (tgt := 10) d_M_pairsBy_47 rfl ?_
        refine J.mask [true, false, true, true] ?_
        exact ih S6 (x2 + (0 : Int32)) (x3 + (1 : Int32)) H
      · have H := ite_f H q8
        refine J.run b_M_pairsBy_25_3 k_M_pairsBy_25_3 rfl (show J w (d + 8) m_M_pairsBy (n0, z0, some (.int z.1), mk c z.2) 28 [some (.ref 191), none, some (.int x2), some (.int x3)] [.int x3, .ref 191, .ref 191, .int x2] (mk c S6) from ?_)
        obtain ⟨r9, S10, h11, H⟩ := bd_e H
        refine J.callV (y := m_M_comeTo) (av := [.int x3]) (rest := [.ref 191, .int x2]) (q := 191) l_M_298 d_M_pairsBy_28 (isC_st rfl rfl) (c_M_comeTo w (d + 5) c  S6 x3 h11) rfl (Nat.le_of_ble_eq_true rfl) ⟨Nat.le_refl _, Nat.le_refl _⟩ (show J w (d + 8) m_M_pairsBy (n0, z0, some (.int z.1), mk c z.2) 31 [some (.ref 191), none, some (.int x2), some (.int x3)] [.long r9, .ref 191, .int x2] (mk c S10) from ?_)
        obtain ⟨r12, S13, h14, H⟩ := bd_e H
        refine J.callV (y := m_M_endsOf) (av := [.long r9]) (rest := [.int x2]) (q := 191) l_M_302 d_M_pairsBy_31 (isC_st rfl rfl) (c_M_endsOf w (d + 4) c  S10 r9 h14) rfl (Nat.le_of_ble_eq_true rfl) ⟨Nat.le_refl _, Nat.le_refl _⟩ (show J w (d + 8) m_M_pairsBy (n0, z0, some (.int z.1), mk c z.2) 34 [some (.ref 191), none, some (.int x2), some (.int x3)] [.int r12, .int x2] (mk c S13) from ?_)
        refine J.run b_M_pairsBy_34_1 k_M_pairsBy_34_1 rfl (show J w (d + 8) m_M_pairsBy (n0, z0, some (.int z.1), mk c z.2) 35 [some (.ref 191), none, some (.int x2), some (.int x3)] [.long (r12.toInt64), .int x2] (mk c S13) from ?_)
        obtain ⟨r15, S16, h17, H⟩ := bd_e H
        refine J.callS (y := m_M_ones) (av := [.long (r12.toInt64)]) (rest := [.int x2]) l_M_306 d_M_pairsBy_35 (c_M_ones w (d + 6) c  S13 (r12.toInt64) h17) rfl (Nat.le_of_ble_eq_true rfl) ⟨Nat.le_refl _, Nat.le_refl _⟩ (show J w (d + 8) m_M_pairsBy (n0, z0, some (.int z.1), mk c z.2) 38 [some (.ref 191), none, some (.int x2), some (.int x3)] [.int r15, .int x2] (mk c S16) from ?_)
        refine J.goto (tgt := 42) d_M_pairsBy_38 rfl ?_
        refine J.run b_M_pairsBy_42_3 k_M_pairsBy_42_3 rfl (show J w (d + 8) m_M_pairsBy (n0, z0, some (.int z.1), mk c z.2) 47 [some (.ref 191), none, some (.int (x2 + r15)), some (.int (x3 + (1 : Int32)))] [] (mk c S16) from ?_)
        refine J.goto (tgt := 10) d_M_pairsBy_47 rfl ?_
        refine J.mask [true, false, true, true] ?_
        exact ih S16 (x2 + r15) (x3 + (1 : Int32)) H
theorem c_M_pairsBy (w : Wd) (d : Nat) (c : cx)   (S : hs) (x1 : Int32)  {z : Int32 × hs} (H : f_M_pairsBy S x1 = some z) : Cl w (d + 8) m_M_pairsBy [.ref 191, .int x1] (mk c S) (some (.int z.1)) (mk c z.2) := by
  refine Cl.of (Nat.le_refl _) (Nat.le_refl _) (by decide +kernel) (Nat.le_of_ble_eq_true rfl) ?_
  unfold f_M_pairsBy at H
  generalize hN (mk c S) = n0
  generalize hZ (mk c S) = z0
  show J w (d + 8) m_M_pairsBy (n0, z0, some (.int z.1), mk c z.2) 0 [some (.ref 191), some (.int x1), none, none] [] (mk c S)
  refine J.run b_M_pairsBy_0_3 k_M_pairsBy_0_3 rfl (show J w (d + 8) m_M_pairsBy (n0, z0, some (.int z.1), mk c z.2) 3 [some (.ref 191), some (.int x1), none, none] [.int (0 : Int32), .int x1, .ref 191] (mk c S) from ?_)
  obtain ⟨r1, S2, h3, H⟩ := bd_e H
  refine J.callV (y := m_M_findOnto) (av := [.int x1, .int (0 : Int32)]) (rest := []) (q := 191) l_M_280 d_M_pairsBy_3 (isC_st rfl rfl) (c_M_findOnto w (d + 0) c  S x1 (0 : Int32) h3) rfl (Nat.le_of_ble_eq_true rfl) ⟨Nat.le_refl _, Nat.le_refl _⟩ (show J w (d + 8) m_M_pairsBy (n0, z0, some (.int z.1), mk c z.2) 6 [some (.ref 191), some (.int x1), none, none] [] (mk c S2) from ?_)
  refine J.run b_M_pairsBy_6_4 k_M_pairsBy_6_4 rfl (show J w (d + 8) m_M_pairsBy (n0, z0, some (.int z.1), mk c z.2) 10 [some (.ref 191), some (.int x1), some (.int (0 : Int32)), some (.int (0 : Int32))] [] (mk c S2) from ?_)
  refine J.mask [true, false, true, true] ?_
  refine lo_M_pairsBy_10 w d c   1000 S2 (0 : Int32) (0 : Int32) H
def b_M_pairs_0_1 : List Ins := [(.iload_n 1, 0, 0, 0)]
theorem k_M_pairs_0_1 : bok m_M_pairs 0 b_M_pairs_0_1 = true := by decide +kernel
def b_M_pairs_15_1 : List Ins := [(.iconst (-1), 0, 0, 0)]
theorem k_M_pairs_15_1 : bok m_M_pairs 15 b_M_pairs_15_1 = true := by decide +kernel
def b_M_pairs_7_2 : List Ins := [(.aload_n 0, 0, 0, 0), (.iload_n 1, 0, 0, 0)]
theorem k_M_pairs_7_2 : bok m_M_pairs 7 b_M_pairs_7_2 = true := by decide +kernel
theorem d_M_pairs_1 : decode m_M_pairs.2.1 1 = .ok (.invokestatic 175, 3) := by decide +kernel
theorem d_M_pairs_4 : decode m_M_pairs.2.1 4 = .ok (.ifCond .eq (11), 3) := by decide +kernel
theorem d_M_pairs_16 : decode m_M_pairs.2.1 16 = .ok (.ireturn, 1) := by decide +kernel
theorem d_M_pairs_9 : decode m_M_pairs.2.1 9 = .ok (.invokevirtual 309, 3) := by decide +kernel
theorem d_M_pairs_12 : decode m_M_pairs.2.1 12 = .ok (.goto (4), 3) := by decide +kernel
def f_M_pairs  (S : hs) (x1 : Int32) : Option (Int32 × hs) := bd (f_M_isWidth  S x1) fun r1 S2 => (if r1 = 0 then some ((-1 : Int32), S2) else bd (f_M_pairsBy  S2 x1) fun r5 S6 => some (r5, S6))
theorem c_M_pairs (w : Wd) (d : Nat) (c : cx)   (S : hs) (x1 : Int32)  {z : Int32 × hs} (H : f_M_pairs S x1 = some z) : Cl w (d + 9) m_M_pairs [.ref 191, .int x1] (mk c S) (some (.int z.1)) (mk c z.2) := by
  refine Cl.of (Nat.le_refl _) (Nat.le_refl _) (by decide +kernel) (Nat.le_of_ble_eq_true rfl) ?_
  unfold f_M_pairs at H
  generalize hN (mk c S) = n0
  generalize hZ (mk c S) = z0
  show J w (d + 9) m_M_pairs (n0, z0, some (.int z.1), mk c z.2) 0 [some (.ref 191), some (.int x1)] [] (mk c S)
  refine J.run b_M_pairs_0_1 k_M_pairs_0_1 rfl (show J w (d + 9) m_M_pairs (n0, z0, some (.int z.1), mk c z.2) 1 [some (.ref 191), some (.int x1)] [.int x1] (mk c S) from ?_)
  obtain ⟨r1, S2, h3, H⟩ := bd_e H
  refine J.callS (y := m_M_isWidth) (av := [.int x1]) (rest := []) l_M_175 d_M_pairs_1 (c_M_isWidth w (d + 6) c  S x1 h3) rfl (Nat.le_of_ble_eq_true rfl) ⟨Nat.le_refl _, Nat.le_refl _⟩ (show J w (d + 9) m_M_pairs (n0, z0, some (.int z.1), mk c z.2) 4 [some (.ref 191), some (.int x1)] [.int r1] (mk c S2) from ?_)
  refine J.zeq (tgt := 15) d_M_pairs_4 rfl (fun q4 => ?_) (fun q4 => ?_)
  · have H := ite_t H q4
    refine J.run b_M_pairs_15_1 k_M_pairs_15_1 rfl (show J w (d + 9) m_M_pairs (n0, z0, some (.int z.1), mk c z.2) 16 [some (.ref 191), some (.int x1)] [.int (-1 : Int32)] (mk c S2) from ?_)
    obtain rfl := some_e H
    exact J.iret d_M_pairs_16 rfl rfl
  · have H := ite_f H q4
    refine J.run b_M_pairs_7_2 k_M_pairs_7_2 rfl (show J w (d + 9) m_M_pairs (n0, z0, some (.int z.1), mk c z.2) 9 [some (.ref 191), some (.int x1)] [.int x1, .ref 191] (mk c S2) from ?_)
    obtain ⟨r5, S6, h7, H⟩ := bd_e H
    refine J.callV (y := m_M_pairsBy) (av := [.int x1]) (rest := []) (q := 191) l_M_309 d_M_pairs_9 (isC_st rfl rfl) (c_M_pairsBy w (d + 0) c  S2 x1 h7) rfl (Nat.le_of_ble_eq_true rfl) ⟨Nat.le_refl _, Nat.le_refl _⟩ (show J w (d + 9) m_M_pairs (n0, z0, some (.int z.1), mk c z.2) 12 [some (.ref 191), some (.int x1)] [.int r5] (mk c S6) from ?_)
    refine J.goto (tgt := 16) d_M_pairs_12 rfl ?_
    obtain rfl := some_e H
    exact J.iret d_M_pairs_16 rfl rfl
def b_M_never_0_1 : List Ins := [(.iload_n 1, 0, 0, 0)]
theorem k_M_never_0_1 : bok m_M_never 0 b_M_never_0_1 = true := by decide +kernel
def b_M_never_9_3 : List Ins := [(.aload_n 0, 0, 0, 0), (.iload_n 1, 0, 0, 0), (.iconst (0), 0, 0, 0)]
theorem k_M_never_9_3 : bok m_M_never 9 b_M_never_9_3 = true := by decide +kernel
def b_M_never_15_4 : List Ins := [(.iconst (0), 0, 0, 0), (.istore_n 2, 0, 0, 0), (.iconst (0), 0, 0, 0), (.istore_n 3, 0, 0, 0)]
theorem k_M_never_15_4 : bok m_M_never 15 b_M_never_15_4 = true := by decide +kernel
def b_M_never_19_2 : List Ins := [(.iload_n 3, 0, 0, 0), (.bipush (40), 0, 0, 0)]
theorem k_M_never_19_2 : bok m_M_never 19 b_M_never_19_2 = true := by decide +kernel
def b_M_never_25_3 : List Ins := [(.iload_n 2, 0, 0, 0), (.aload_n 0, 0, 0, 0), (.iload_n 3, 0, 0, 0)]
theorem k_M_never_25_3 : bok m_M_never 25 b_M_never_25_3 = true := by decide +kernel
def b_M_never_56_4 : List Ins := [(.iconst (0), 0, 0, 0), (.ior, 0, 0, 0), (.istore_n 2, 0, 0, 0), (.iinc 3 (1), 0, 0, 0)]
theorem k_M_never_56_4 : bok m_M_never 56 b_M_never_56_4 = true := by decide +kernel
def b_M_never_34_3 : List Ins := [(.aload_n 0, 0, 0, 0), (.aload_n 0, 0, 0, 0), (.iload_n 3, 0, 0, 0)]
theorem k_M_never_34_3 : bok m_M_never 34 b_M_never_34_3 = true := by decide +kernel
def b_M_never_43_3 : List Ins := [(.iconst (1), 0, 0, 0), (.aload_n 0, 0, 0, 0), (.iload_n 3, 0, 0, 0)]
theorem k_M_never_43_3 : bok m_M_never 43 b_M_never_43_3 = true := by decide +kernel
def b_M_never_49_4 : List Ins := [(.ishl, 0, 0, 0), (.iconst (-1), 0, 0, 0), (.ixor, 0, 0, 0), (.iand, 0, 0, 0)]
theorem k_M_never_49_4 : bok m_M_never 49 b_M_never_49_4 = true := by decide +kernel
def b_M_never_57_3 : List Ins := [(.ior, 0, 0, 0), (.istore_n 2, 0, 0, 0), (.iinc 3 (1), 0, 0, 0)]
theorem k_M_never_57_3 : bok m_M_never 57 b_M_never_57_3 = true := by decide +kernel
def b_M_never_65_12 : List Ins := [(.iconst (1), 0, 0, 0), (.aload_n 0, 0, 0, 0), (.getfield 9, 11, 0, 2), (.iconst (1), 0, 0, 0), (.iaload, 0, 0, 0), (.ishl, 0, 0, 0), (.iconst (1), 0, 0, 0), (.isub, 0, 0, 0), (.iload_n 2, 0, 0, 0), (.iconst (-1), 0, 0, 0), (.ixor, 0, 0, 0), (.iand, 0, 0, 0)]
theorem k_M_never_65_12 : bok m_M_never 65 b_M_never_65_12 = true := by decide +kernel
def b_M_never_7_1 : List Ins := [(.iconst (-1), 0, 0, 0)]
theorem k_M_never_7_1 : bok m_M_never 7 b_M_never_7_1 = true := by decide +kernel
theorem d_M_never_1 : decode m_M_never.2.1 1 = .ok (.invokestatic 175, 3) := by decide +kernel
theorem d_M_never_4 : decode m_M_never.2.1 4 = .ok (.ifCond .ne (5), 3) := by decide +kernel
theorem d_M_never_12 : decode m_M_never.2.1 12 = .ok (.invokevirtual 280, 3) := by decide +kernel
theorem d_M_never_22 : decode m_M_never.2.1 22 = .ok (.if_icmp .ge (43), 3) := by decide +kernel
theorem d_M_never_28 : decode m_M_never.2.1 28 = .ok (.invokevirtual 123, 3) := by decide +kernel
theorem d_M_never_31 : decode m_M_never.2.1 31 = .ok (.ifCond .eq (25), 3) := by decide +kernel
theorem d_M_never_62 : decode m_M_never.2.1 62 = .ok (.goto (-43), 3) := by decide +kernel
theorem d_M_never_37 : decode m_M_never.2.1 37 = .ok (.invokevirtual 298, 3) := by decide +kernel
theorem d_M_never_40 : decode m_M_never.2.1 40 = .ok (.invokevirtual 302, 3) := by decide +kernel
theorem d_M_never_46 : decode m_M_never.2.1 46 = .ok (.invokevirtual 130, 3) := by decide +kernel
theorem d_M_never_53 : decode m_M_never.2.1 53 = .ok (.goto (4), 3) := by decide +kernel
theorem d_M_never_79 : decode m_M_never.2.1 79 = .ok (.ireturn, 1) := by decide +kernel
theorem d_M_never_8 : decode m_M_never.2.1 8 = .ok (.ireturn, 1) := by decide +kernel
def lp_M_never_19   (K0 : hs → Int32 → Int32 → Option (Int32 × hs)) : Nat → hs → Int32 → Int32 → Option (Int32 × hs)
  | 0, _, _, _ => none
  | n + 1, S, x2, x3 => (if (40 : Int32) ≤ x3 then K0 S x2 x3 else bd (f_M_isCourse  S x3) fun r9 S10 => (if r9 = 0 then lp_M_never_19 K0 n S10 (x2 ||| (0 : Int32)) (x3 + (1 : Int32)) else bd (f_M_comeTo  S10 x3) fun r13 S14 => bd (f_M_endsOf  S14 r13) fun r16 S17 => bd (f_M_endOf  S17 x3) fun r19 S20 => lp_M_never_19 K0 n S20 (x2 ||| (r16 &&& (((1 : Int32) <<< (r19 &&& 31)) ^^^ (-1 : Int32)))) (x3 + (1 : Int32))))
def f_M_never  (S : hs) (x1 : Int32) : Option (Int32 × hs) := bd (f_M_isWidth  S x1) fun r1 S2 => (if r1 = 0 then some ((-1 : Int32), S2) else bd (f_M_findOnto  S2 x1 (0 : Int32)) fun r5 S6 => lp_M_never_19 (fun (S22 : hs) (y23 : Int32) (y24 : Int32) => some (((((1 : Int32) <<< ((gI S22 192 1) &&& 31)) - (1 : Int32)) &&& (y23 ^^^ (-1 : Int32))), S22)) 1000 S6 (0 : Int32) (0 : Int32))
theorem lo_M_never_19 (w : Wd) (d : Nat) (c : cx) {n0 z0 : Nat} {z : Int32 × hs}  {K0 : hs → Int32 → Int32 → Option (Int32 × hs)}    (hK0 : ∀ (S : hs) (x2 : Int32) (x3 : Int32), K0 S x2 x3 = some z → J w (d + 8) m_M_never (n0, z0, some (.int z.1), mk c z.2) 65 [some (.ref 191), none, some (.int x2), none] [] (mk c S)) :
    ∀ (n : Nat) (S : hs) (x2 : Int32) (x3 : Int32), lp_M_never_19 K0 n S x2 x3 = some z → J w (d + 8) m_M_never (n0, z0, some (.int z.1), mk c z.2) 19 [some (.ref 191), none, some (.int x2), some (.int x3)] [] (mk c S) := by
  intro n
  induction n with
  | zero => intro S x2 x3 H; cases H
  | succ n ih =>
    intro S x2 x3 H
    rw [lp_M_never_19] at H
    refine J.run b_M_never_19_2 k_M_never_19_2 rfl (show J w (d + 8) m_M_never (n0, z0, some (.int z.1), mk c z.2) 22 [some (.ref 191), none, some (.int x2), some (.int x3)] [.int (40 : Int32), .int x3] (mk c S) from ?_)
    refine J.cge (tgt := 65) d_M_never_22 rfl (fun q8 => ?_) (fun q8 => ?_)
    · have H := ite_t H q8
      refine J.mask [true, false, true, false] ?_
      exact hK0 S x2 x3 H
    · have H := ite_f H q8
      refine J.run b_M_never_25_3 k_M_never_25_3 rfl (show J w (d + 8) m_M_never (n0, z0, some (.int z.1), mk c z.2) 28 [some (.ref 191), none, some (.int x2), some (.int x3)] [.int x3, .ref 191, .int x2] (mk c S) from ?_)
      obtain ⟨r9, S10, h11, H⟩ := bd_e H
      refine J.callV (y := m_M_isCourse) (av := [.int x3]) (rest := [.int x2]) (q := 191) l_M_123 d_M_never_28 (isC_st rfl rfl) (c_M_isCourse w (d + 5) c  S x3 h11) rfl (Nat.le_of_ble_eq_true rfl) ⟨Nat.le_refl _, Nat.le_refl _⟩ (show J w (d + 8) m_M_never (n0, z0, some (.int z.1), mk c z.2) 31 [some (.ref 191), none, some (.int x2), some (.int x3)] [.int r9, .int x2] (mk c S10) from ?_)
      refine J.zeq (tgt := 56) d_M_never_31 rfl (fun q12 => ?_) (fun q12 => ?_)
      · have H := ite_t H q12
        refine J.run b_M_never_56_4 k_M_never_56_4 rfl (show J w (d + 8) m_M_never (n0, z0, some (.int z.1), mk c z.2) 62 [some (.ref 191), none, some (.int (x2 ||| (0 : Int32))), some (.int (x3 + (1 : Int32)))] [] (mk c S10) from ?_)
        refine J.goto (tgt := 19) d_M_never_62 rfl ?_
        refine J.mask [true, false, true, true] ?_
        exact ih S10 (x2 ||| (0 : Int32)) (x3 + (1 : Int32)) H
      · have H := ite_f H q12
        refine J.run b_M_never_34_3 k_M_never_34_3 rfl (show J w (d + 8) m_M_never (n0, z0, some (.int z.1), mk c z.2) 37 [some (.ref 191), none, some (.int x2), some (.int x3)] [.int x3, .ref 191, .ref 191, .int x2] (mk c S10) from ?_)
        obtain ⟨r13, S14, h15, H⟩ := bd_e H
        refine J.callV (y := m_M_comeTo) (av := [.int x3]) (rest := [.ref 191, .int x2]) (q := 191) l_M_298 d_M_never_37 (isC_st rfl rfl) (c_M_comeTo w (d + 5) c  S10 x3 h15) rfl (Nat.le_of_ble_eq_true rfl) ⟨Nat.le_refl _, Nat.le_refl _⟩ (show J w (d + 8) m_M_never (n0, z0, some (.int z.1), mk c z.2) 40 [some (.ref 191), none, some (.int x2), some (.int x3)] [.long r13, .ref 191, .int x2] (mk c S14) from ?_)
        obtain ⟨r16, S17, h18, H⟩ := bd_e H
        refine J.callV (y := m_M_endsOf) (av := [.long r13]) (rest := [.int x2]) (q := 191) l_M_302 d_M_never_40 (isC_st rfl rfl) (c_M_endsOf w (d + 4) c  S14 r13 h18) rfl (Nat.le_of_ble_eq_true rfl) ⟨Nat.le_refl _, Nat.le_refl _⟩ (show J w (d + 8) m_M_never (n0, z0, some (.int z.1), mk c z.2) 43 [some (.ref 191), none, some (.int x2), some (.int x3)] [.int r16, .int x2] (mk c S17) from ?_)
        refine J.run b_M_never_43_3 k_M_never_43_3 rfl (show J w (d + 8) m_M_never (n0, z0, some (.int z.1), mk c z.2) 46 [some (.ref 191), none, some (.int x2), some (.int x3)] [.int x3, .ref 191, .int (1 : Int32), .int r16, .int x2] (mk c S17) from ?_)
        obtain ⟨r19, S20, h21, H⟩ := bd_e H
        refine J.callV (y := m_M_endOf) (av := [.int x3]) (rest := [.int (1 : Int32), .int r16, .int x2]) (q := 191) l_M_130 d_M_never_46 (isC_st rfl rfl) (c_M_endOf w (d + 5) c  S17 x3 h21) rfl (Nat.le_of_ble_eq_true rfl) ⟨Nat.le_refl _, Nat.le_refl _⟩ (show J w (d + 8) m_M_never (n0, z0, some (.int z.1), mk c z.2) 49 [some (.ref 191), none, some (.int x2), some (.int x3)] [.int r19, .int (1 : Int32), .int r16, .int x2] (mk c S20) from ?_)
        refine J.run b_M_never_49_4 k_M_never_49_4 rfl (show J w (d + 8) m_M_never (n0, z0, some (.int z.1), mk c z.2) 53 [some (.ref 191), none, some (.int x2), some (.int x3)] [.int (r16 &&& (((1 : Int32) <<< (r19 &&& 31)) ^^^ (-1 : Int32))), .int x2] (mk c S20) from ?_)
        refine J.goto (tgt := 57) d_M_never_53 rfl ?_
        refine J.run b_M_never_57_3 k_M_never_57_3 rfl (show J w (d + 8) m_M_never (n0, z0, some (.int z.1), mk c z.2) 62 [some (.ref 191), none, some (.int (x2 ||| (r16 &&& (((1 : Int32) <<< (r19 &&& 31)) ^^^ (-1 : Int32))))), some (.int (x3 + (1 : Int32)))] [] (mk c S20) from ?_)
        refine J.goto (tgt := 19) d_M_never_62 rfl ?_
        refine J.mask [true, false, true, true] ?_
        exact ih S20 (x2 ||| (r16 &&& (((1 : Int32) <<< (r19 &&& 31)) ^^^ (-1 : Int32)))) (x3 + (1 : Int32)) H
theorem c_M_never (w : Wd) (d : Nat) (c : cx)   (S : hs) (x1 : Int32)  {z : Int32 × hs} (H : f_M_never S x1 = some z) : Cl w (d + 8) m_M_never [.ref 191, .int x1] (mk c S) (some (.int z.1)) (mk c z.2) := by
  refine Cl.of (Nat.le_refl _) (Nat.le_refl _) (by decide +kernel) (Nat.le_of_ble_eq_true rfl) ?_
  unfold f_M_never at H
  generalize hN (mk c S) = n0
  generalize hZ (mk c S) = z0
  show J w (d + 8) m_M_never (n0, z0, some (.int z.1), mk c z.2) 0 [some (.ref 191), some (.int x1), none, none] [] (mk c S)
  refine J.run b_M_never_0_1 k_M_never_0_1 rfl (show J w (d + 8) m_M_never (n0, z0, some (.int z.1), mk c z.2) 1 [some (.ref 191), some (.int x1), none, none] [.int x1] (mk c S) from ?_)
  obtain ⟨r1, S2, h3, H⟩ := bd_e H
  refine J.callS (y := m_M_isWidth) (av := [.int x1]) (rest := []) l_M_175 d_M_never_1 (c_M_isWidth w (d + 5) c  S x1 h3) rfl (Nat.le_of_ble_eq_true rfl) ⟨Nat.le_refl _, Nat.le_refl _⟩ (show J w (d + 8) m_M_never (n0, z0, some (.int z.1), mk c z.2) 4 [some (.ref 191), some (.int x1), none, none] [.int r1] (mk c S2) from ?_)
  refine J.zne (tgt := 9) d_M_never_4 rfl (fun q4 => ?_) (fun q4 => ?_)
  · have H := ite_f H q4
    refine J.run b_M_never_9_3 k_M_never_9_3 rfl (show J w (d + 8) m_M_never (n0, z0, some (.int z.1), mk c z.2) 12 [some (.ref 191), some (.int x1), none, none] [.int (0 : Int32), .int x1, .ref 191] (mk c S2) from ?_)
    obtain ⟨r5, S6, h7, H⟩ := bd_e H
    refine J.callV (y := m_M_findOnto) (av := [.int x1, .int (0 : Int32)]) (rest := []) (q := 191) l_M_280 d_M_never_12 (isC_st rfl rfl) (c_M_findOnto w (d + 0) c  S2 x1 (0 : Int32) h7) rfl (Nat.le_of_ble_eq_true rfl) ⟨Nat.le_refl _, Nat.le_refl _⟩ (show J w (d + 8) m_M_never (n0, z0, some (.int z.1), mk c z.2) 15 [some (.ref 191), some (.int x1), none, none] [] (mk c S6) from ?_)
    refine J.run b_M_never_15_4 k_M_never_15_4 rfl (show J w (d + 8) m_M_never (n0, z0, some (.int z.1), mk c z.2) 19 [some (.ref 191), some (.int x1), some (.int (0 : Int32)), some (.int (0 : Int32))] [] (mk c S6) from ?_)
    refine J.mask [true, false, true, true] ?_
    refine lo_M_never_19 w d c  ?_ 1000 S6 (0 : Int32) (0 : Int32) H
    · intro S22 y23 y24 H
      try dsimp only at H
      refine J.run b_M_never_65_12 k_M_never_65_12 rfl (And.intro (okO_st (S := S22) rfl) (And.intro (okA_st (S := S22) (n := 358) rfl rfl) (show J w (d + 8) m_M_never (n0, z0, some (.int z.1), mk c z.2) 79 [some (.ref 191), none, some (.int y23), none] [.int ((((1 : Int32) <<< ((gI S22 192 1) &&& 31)) - (1 : Int32)) &&& (y23 ^^^ (-1 : Int32)))] (mk c S22) from ?_)))
      obtain rfl := some_e H
      exact J.iret d_M_never_79 rfl rfl
  · have H := ite_t H q4
    refine J.run b_M_never_7_1 k_M_never_7_1 rfl (show J w (d + 8) m_M_never (n0, z0, some (.int z.1), mk c z.2) 8 [some (.ref 191), some (.int x1), none, none] [.int (-1 : Int32)] (mk c S2) from ?_)
    obtain rfl := some_e H
    exact J.iret d_M_never_8 rfl rfl
def b_M_parts_0_1 : List Ins := [(.iload_n 1, 0, 0, 0)]
theorem k_M_parts_0_1 : bok m_M_parts 0 b_M_parts_0_1 = true := by decide +kernel
def b_M_parts_9_3 : List Ins := [(.aload_n 0, 0, 0, 0), (.iload_n 1, 0, 0, 0), (.iconst (0), 0, 0, 0)]
theorem k_M_parts_9_3 : bok m_M_parts 9 b_M_parts_9_3 = true := by decide +kernel
def b_M_parts_15_4 : List Ins := [(.iconst (0), 0, 0, 0), (.istore_n 2, 0, 0, 0), (.iconst (0), 0, 0, 0), (.istore_n 3, 0, 0, 0)]
theorem k_M_parts_15_4 : bok m_M_parts 15 b_M_parts_15_4 = true := by decide +kernel
def b_M_parts_19_2 : List Ins := [(.iload_n 3, 0, 0, 0), (.bipush (40), 0, 0, 0)]
theorem k_M_parts_19_2 : bok m_M_parts 19 b_M_parts_19_2 = true := by decide +kernel
def b_M_parts_117_1 : List Ins := [(.iload_n 2, 0, 0, 0)]
theorem k_M_parts_117_1 : bok m_M_parts 117 b_M_parts_117_1 = true := by decide +kernel
def b_M_parts_25_2 : List Ins := [(.aload_n 0, 0, 0, 0), (.iload_n 3, 0, 0, 0)]
theorem k_M_parts_25_2 : bok m_M_parts 25 b_M_parts_25_2 = true := by decide +kernel
def b_M_parts_30_2 : List Ins := [(.istore 4, 0, 0, 0), (.iload 4, 0, 0, 0)]
theorem k_M_parts_30_2 : bok m_M_parts 30 b_M_parts_30_2 = true := by decide +kernel
def b_M_parts_45_4 : List Ins := [(.lconst 0, 0, 0, 0), (.lstore 5, 0, 0, 0), (.iconst (0), 0, 0, 0), (.istore 7, 0, 0, 0)]
theorem k_M_parts_45_4 : bok m_M_parts 45 b_M_parts_45_4 = true := by decide +kernel
def b_M_parts_51_2 : List Ins := [(.iload 7, 0, 0, 0), (.iload_n 3, 0, 0, 0)]
theorem k_M_parts_51_2 : bok m_M_parts 51 b_M_parts_51_2 = true := by decide +kernel
def b_M_parts_57_1 : List Ins := [(.iload 4, 0, 0, 0)]
theorem k_M_parts_57_1 : bok m_M_parts 57 b_M_parts_57_1 = true := by decide +kernel
def b_M_parts_62_2 : List Ins := [(.lload 5, 0, 0, 0), (.iload 7, 0, 0, 0)]
theorem k_M_parts_62_2 : bok m_M_parts 62 b_M_parts_62_2 = true := by decide +kernel
def b_M_parts_85_1 : List Ins := [(.iconst (1), 0, 0, 0)]
theorem k_M_parts_85_1 : bok m_M_parts 85 b_M_parts_85_1 = true := by decide +kernel
def b_M_parts_90_2 : List Ins := [(.istore 4, 0, 0, 0), (.iinc 7 (1), 0, 0, 0)]
theorem k_M_parts_90_2 : bok m_M_parts 90 b_M_parts_90_2 = true := by decide +kernel
def b_M_parts_72_2 : List Ins := [(.aload_n 0, 0, 0, 0), (.iload 7, 0, 0, 0)]
theorem k_M_parts_72_2 : bok m_M_parts 72 b_M_parts_72_2 = true := by decide +kernel
def b_M_parts_78_1 : List Ins := [(.iload_n 3, 0, 0, 0)]
theorem k_M_parts_78_1 : bok m_M_parts 78 b_M_parts_78_1 = true := by decide +kernel
def b_M_parts_89_3 : List Ins := [(.iconst (0), 0, 0, 0), (.istore 4, 0, 0, 0), (.iinc 7 (1), 0, 0, 0)]
theorem k_M_parts_89_3 : bok m_M_parts 89 b_M_parts_89_3 = true := by decide +kernel
def b_M_parts_98_2 : List Ins := [(.iload_n 2, 0, 0, 0), (.iload 4, 0, 0, 0)]
theorem k_M_parts_98_2 : bok m_M_parts 98 b_M_parts_98_2 = true := by decide +kernel
def b_M_parts_108_4 : List Ins := [(.iconst (0), 0, 0, 0), (.iadd, 0, 0, 0), (.istore_n 2, 0, 0, 0), (.iinc 3 (1), 0, 0, 0)]
theorem k_M_parts_108_4 : bok m_M_parts 108 b_M_parts_108_4 = true := by decide +kernel
def b_M_parts_104_1 : List Ins := [(.iconst (1), 0, 0, 0)]
theorem k_M_parts_104_1 : bok m_M_parts 104 b_M_parts_104_1 = true := by decide +kernel
def b_M_parts_109_3 : List Ins := [(.iadd, 0, 0, 0), (.istore_n 2, 0, 0, 0), (.iinc 3 (1), 0, 0, 0)]
theorem k_M_parts_109_3 : bok m_M_parts 109 b_M_parts_109_3 = true := by decide +kernel
def b_M_parts_37_2 : List Ins := [(.aload_n 0, 0, 0, 0), (.iload_n 3, 0, 0, 0)]
theorem k_M_parts_37_2 : bok m_M_parts 37 b_M_parts_37_2 = true := by decide +kernel
def b_M_parts_46_3 : List Ins := [(.lstore 5, 0, 0, 0), (.iconst (0), 0, 0, 0), (.istore 7, 0, 0, 0)]
theorem k_M_parts_46_3 : bok m_M_parts 46 b_M_parts_46_3 = true := by decide +kernel
def b_M_parts_7_1 : List Ins := [(.iconst (-1), 0, 0, 0)]
theorem k_M_parts_7_1 : bok m_M_parts 7 b_M_parts_7_1 = true := by decide +kernel
theorem d_M_parts_1 : decode m_M_parts.2.1 1 = .ok (.invokestatic 175, 3) := by decide +kernel
theorem d_M_parts_4 : decode m_M_parts.2.1 4 = .ok (.ifCond .ne (5), 3) := by decide +kernel
theorem d_M_parts_12 : decode m_M_parts.2.1 12 = .ok (.invokevirtual 280, 3) := by decide +kernel
theorem d_M_parts_22 : decode m_M_parts.2.1 22 = .ok (.if_icmp .ge (95), 3) := by decide +kernel
theorem d_M_parts_118 : decode m_M_parts.2.1 118 = .ok (.ireturn, 1) := by decide +kernel
theorem d_M_parts_27 : decode m_M_parts.2.1 27 = .ok (.invokevirtual 123, 3) := by decide +kernel
theorem d_M_parts_34 : decode m_M_parts.2.1 34 = .ok (.ifCond .eq (11), 3) := by decide +kernel
theorem d_M_parts_54 : decode m_M_parts.2.1 54 = .ok (.if_icmp .ge (44), 3) := by decide +kernel
theorem d_M_parts_59 : decode m_M_parts.2.1 59 = .ok (.ifCond .eq (39), 3) := by decide +kernel
theorem d_M_parts_66 : decode m_M_parts.2.1 66 = .ok (.invokestatic 160, 3) := by decide +kernel
theorem d_M_parts_69 : decode m_M_parts.2.1 69 = .ok (.ifCond .eq (16), 3) := by decide +kernel
theorem d_M_parts_86 : decode m_M_parts.2.1 86 = .ok (.goto (4), 3) := by decide +kernel
theorem d_M_parts_95 : decode m_M_parts.2.1 95 = .ok (.goto (-44), 3) := by decide +kernel
theorem d_M_parts_75 : decode m_M_parts.2.1 75 = .ok (.invokevirtual 298, 3) := by decide +kernel
theorem d_M_parts_79 : decode m_M_parts.2.1 79 = .ok (.invokestatic 160, 3) := by decide +kernel
theorem d_M_parts_82 : decode m_M_parts.2.1 82 = .ok (.ifCond .ne (7), 3) := by decide +kernel
theorem d_M_parts_101 : decode m_M_parts.2.1 101 = .ok (.ifCond .eq (7), 3) := by decide +kernel
theorem d_M_parts_114 : decode m_M_parts.2.1 114 = .ok (.goto (-95), 3) := by decide +kernel
theorem d_M_parts_105 : decode m_M_parts.2.1 105 = .ok (.goto (4), 3) := by decide +kernel
theorem d_M_parts_39 : decode m_M_parts.2.1 39 = .ok (.invokevirtual 298, 3) := by decide +kernel
theorem d_M_parts_42 : decode m_M_parts.2.1 42 = .ok (.goto (4), 3) := by decide +kernel
theorem d_M_parts_8 : decode m_M_parts.2.1 8 = .ok (.ireturn, 1) := by decide +kernel
def lp_M_parts_51 (x2 : Int32) (x3 : Int32) (x5 : Int64)  (K0 : hs → Int32 → Int32 → Option (Int32 × hs)) : Nat → hs → Int32 → Int32 → Option (Int32 × hs)
  | 0, _, _, _ => none
  | n + 1, S, x4, x7 => (if x3 ≤ x7 then K0 S x4 x7 else (if x4 = 0 then K0 S x4 x7 else bd (f_M_hasBit  S x5 x7) fun r15 S16 => (if r15 = 0 then lp_M_parts_51 x2 x3 x5 K0 n S16 (1 : Int32) (x7 + (1 : Int32)) else bd (f_M_comeTo  S16 x7) fun r19 S20 => bd (f_M_hasBit  S20 r19 x3) fun r22 S23 => (if r22 = 0 then lp_M_parts_51 x2 x3 x5 K0 n S23 (1 : Int32) (x7 + (1 : Int32)) else lp_M_parts_51 x2 x3 x5 K0 n S23 (0 : Int32) (x7 + (1 : Int32))))))
def lp_M_parts_19    : Nat → hs → Int32 → Int32 → Option (Int32 × hs)
  | 0, _, _, _ => none
  | n + 1, S, x2, x3 => (if (40 : Int32) ≤ x3 then some (x2, S) else bd (f_M_isCourse  S x3) fun r9 S10 => (if r9 = 0 then lp_M_parts_51 x2 x3 (0 : Int64) (fun (S26 : hs) (y27 : Int32) (y28 : Int32) => (if y27 = 0 then lp_M_parts_19  n S26 (x2 + (0 : Int32)) (x3 + (1 : Int32)) else lp_M_parts_19  n S26 (x2 + (1 : Int32)) (x3 + (1 : Int32)))) 1000 S10 r9 (0 : Int32) else bd (f_M_comeTo  S10 x3) fun r30 S31 => lp_M_parts_51 x2 x3 r30 (fun (S33 : hs) (y34 : Int32) (y35 : Int32) => (if y34 = 0 then lp_M_parts_19  n S33 (x2 + (0 : Int32)) (x3 + (1 : Int32)) else lp_M_parts_19  n S33 (x2 + (1 : Int32)) (x3 + (1 : Int32)))) 1000 S31 r9 (0 : Int32)))
def f_M_parts  (S : hs) (x1 : Int32) : Option (Int32 × hs) := bd (f_M_isWidth  S x1) fun r1 S2 => (if r1 = 0 then some ((-1 : Int32), S2) else bd (f_M_findOnto  S2 x1 (0 : Int32)) fun r5 S6 => lp_M_parts_19  1000 S6 (0 : Int32) (0 : Int32))
theorem lo_M_parts_51 (w : Wd) (d : Nat) (c : cx) {n0 z0 : Nat} {z : Int32 × hs}  {K0 : hs → Int32 → Int32 → Option (Int32 × hs)} (x2 : Int32) (x3 : Int32) (x5 : Int64)   (hK0 : ∀ (S : hs) (x4 : Int32) (x7 : Int32), K0 S x4 x7 = some z → J w (d + 8) m_M_parts (n0, z0, some (.int z.1), mk c z.2) 98 [some (.ref 191), none, some (.int x2), some (.int x3), some (.int x4), none, none, none] [] (mk c S)) :
    ∀ (n : Nat) (S : hs) (x4 : Int32) (x7 : Int32), lp_M_parts_51 x2 x3 x5 K0 n S x4 x7 = some z → J w (d + 8) m_M_parts (n0, z0, some (.int z.1), mk c z.2) 51 [some (.ref 191), none, some (.int x2), some (.int x3), some (.int x4), some (.long x5), none, some (.int x7)] [] (mk c S) := by
  intro n
  induction n with
  | zero => intro S x4 x7 H; cases H
  | succ n ih =>
    intro S x4 x7 H
    rw [lp_M_parts_51] at H
    refine J.run b_M_parts_51_2 k_M_parts_51_2 rfl (show J w (d + 8) m_M_parts (n0, z0, some (.int z.1), mk c z.2) 54 [some (.ref 191), none, some (.int x2), some (.int x3), some (.int x4), some (.long x5), none, some (.int x7)] [.int x3, .int x7] (mk c S) from ?_)
    refine J.cge (tgt := 98) d_M_parts_54 rfl (fun q13 => ?_) (fun q13 => ?_)
    · have H := ite_t H q13
      refine J.mask [true, false, true, true, true, false, false, false] ?_
      exact hK0 S x4 x7 H
    · have H := ite_f H q13
      refine J.run b_M_parts_57_1 k_M_parts_57_1 rfl (show J w (d + 8) m_M_parts (n0, z0, some (.int z.1), mk c z.2) 59 [some (.ref 191), none, some (.int x2), some (.int x3), some (.int x4), some (.long x5), none, some (.int x7)] [.int x4] (mk c S) from ?_)
      refine J.zeq (tgt := 98) d_M_parts_59 rfl (fun q14 => ?_) (fun q14 => ?_)
      · have H := ite_t H q14
        refine J.mask [true, false, true, true, true, false, false, false] ?_
        exact hK0 S x4 x7 H
      · have H := ite_f H q14
        refine J.run b_M_parts_62_2 k_M_parts_62_2 rfl (show J w (d + 8) m_M_parts (n0, z0, some (.int z.1), mk c z.2) 66 [some (.ref 191), none, some (.int x2), some (.int x3), some (.int x4), some (.long x5), none, some (.int x7)] [.int x7, .long x5] (mk c S) from ?_)
        obtain ⟨r15, S16, h17, H⟩ := bd_e H
        refine J.callS (y := m_M_hasBit) (av := [.long x5, .int x7]) (rest := []) l_M_160 d_M_parts_66 (c_M_hasBit w (d + 6) c  S x5 x7 h17) rfl (Nat.le_of_ble_eq_true rfl) ⟨Nat.le_refl _, Nat.le_refl _⟩ (show J w (d + 8) m_M_parts (n0, z0, some (.int z.1), mk c z.2) 69 [some (.ref 191), none, some (.int x2), some (.int x3), some (.int x4), some (.long x5), none, some (.int x7)] [.int r15] (mk c S16) from ?_)
        refine J.zeq (tgt := 85) d_M_parts_69 rfl (fun q18 => ?_) (fun q18 => ?_)
        · have H := ite_t H q18
          refine J.run b_M_parts_85_1 k_M_parts_85_1 rfl (show J w (d + 8) m_M_parts (n0, z0, some (.int z.1), mk c z.2) 86 [some (.ref 191), none, some (.int x2), some (.int x3), some (.int x4), some (.long x5), none, some (.int x7)] [.int (1 : Int32)] (mk c S16) from ?_)
          refine J.goto (tgt := 90) d_M_parts_86 rfl ?_
          refine J.run b_M_parts_90_2 k_M_parts_90_2 rfl (show J w (d + 8) m_M_parts (n0, z0, some (.int z.1), mk c z.2) 95 [some (.ref 191), none, some (.int x2), some (.int x3), some (.int (1 : Int32)), some (.long x5), none, some (.int (x7 + (1 : Int32)))] [] (mk c S16) from ?_)
          refine J.goto (tgt := 51) d_M_parts_95 rfl ?_
          refine J.mask [true, false, true, true, true, true, false, true] ?_
          exact ih S16 (1 : Int32) (x7 + (1 : Int32)) H
        · have H := ite_f H q18
          refine J.run b_M_parts_72_2 k_M_parts_72_2 rfl (show J w (d + 8) m_M_parts (n0, z0, some (.int z.1), mk c z.2) 75 [some (.ref 191), none, some (.int x2), some (.int x3), some (.int x4), some (.long x5), none, some (.int x7)] [.int x7, .ref 191] (mk c S16) from ?_)
          obtain ⟨r19, S20, h21, H⟩ := bd_e H
          refine J.callV (y := m_M_comeTo) (av := [.int x7]) (rest := []) (q := 191) l_M_298 d_M_parts_75 (isC_st rfl rfl) (c_M_comeTo w (d + 5) c  S16 x7 h21) rfl (Nat.le_of_ble_eq_true rfl) ⟨Nat.le_refl _, Nat.le_refl _⟩ (show J w (d + 8) m_M_parts (n0, z0, some (.int z.1), mk c z.2) 78 [some (.ref 191), none, some (.int x2), some (.int x3), some (.int x4), some (.long x5), none, some (.int x7)] [.long r19] (mk c S20) from ?_)
          refine J.run b_M_parts_78_1 k_M_parts_78_1 rfl (show J w (d + 8) m_M_parts (n0, z0, some (.int z.1), mk c z.2) 79 [some (.ref 191), none, some (.int x2), some (.int x3), some (.int x4), some (.long x5), none, some (.int x7)] [.int x3, .long r19] (mk c S20) from ?_)
          obtain ⟨r22, S23, h24, H⟩ := bd_e H
          refine J.callS (y := m_M_hasBit) (av := [.long r19, .int x3]) (rest := []) l_M_160 d_M_parts_79 (c_M_hasBit w (d + 6) c  S20 r19 x3 h24) rfl (Nat.le_of_ble_eq_true rfl) ⟨Nat.le_refl _, Nat.le_refl _⟩ (show J w (d + 8) m_M_parts (n0, z0, some (.int z.1), mk c z.2) 82 [some (.ref 191), none, some (.int x2), some (.int x3), some (.int x4), some (.long x5), none, some (.int x7)] [.int r22] (mk c S23) from ?_)
          refine J.zne (tgt := 89) d_M_parts_82 rfl (fun q25 => ?_) (fun q25 => ?_)
          · have H := ite_f H q25
            refine J.run b_M_parts_89_3 k_M_parts_89_3 rfl (show J w (d + 8) m_M_parts (n0, z0, some (.int z.1), mk c z.2) 95 [some (.ref 191), none, some (.int x2), some (.int x3), some (.int (0 : Int32)), some (.long x5), none, some (.int (x7 + (1 : Int32)))] [] (mk c S23) from ?_)
            refine J.goto (tgt := 51) d_M_parts_95 rfl ?_
            refine J.mask [true, false, true, true, true, true, false, true] ?_
            exact ih S23 (0 : Int32) (x7 + (1 : Int32)) H
          · have H := ite_t H q25
            refine J.run b_M_parts_85_1 k_M_parts_85_1 rfl (show J w (d + 8) m_M_parts (n0, z0, some (.int z.1), mk c z.2) 86 [some (.ref 191), none, some (.int x2), some (.int x3), some (.int x4), some (.long x5), none, some (.int x7)] [.int (1 : Int32)] (mk c S23) from ?_)
            refine J.goto (tgt := 90) d_M_parts_86 rfl ?_
            refine J.run b_M_parts_90_2 k_M_parts_90_2 rfl (show J w (d + 8) m_M_parts (n0, z0, some (.int z.1), mk c z.2) 95 [some (.ref 191), none, some (.int x2), some (.int x3), some (.int (1 : Int32)), some (.long x5), none, some (.int (x7 + (1 : Int32)))] [] (mk c S23) from ?_)
            refine J.goto (tgt := 51) d_M_parts_95 rfl ?_
            refine J.mask [true, false, true, true, true, true, false, true] ?_
            exact ih S23 (1 : Int32) (x7 + (1 : Int32)) H
theorem lo_M_parts_19 (w : Wd) (d : Nat) (c : cx) {n0 z0 : Nat} {z : Int32 × hs}       :
    ∀ (n : Nat) (S : hs) (x2 : Int32) (x3 : Int32), lp_M_parts_19  n S x2 x3 = some z → J w (d + 8) m_M_parts (n0, z0, some (.int z.1), mk c z.2) 19 [some (.ref 191), none, some (.int x2), some (.int x3), none, none, none, none] [] (mk c S) := by
  intro n
  induction n with
  | zero => intro S x2 x3 H; cases H
  | succ n ih =>
    intro S x2 x3 H
    rw [lp_M_parts_19] at H
    refine J.run b_M_parts_19_2 k_M_parts_19_2 rfl (show J w (d + 8) m_M_parts (n0, z0, some (.int z.1), mk c z.2) 22 [some (.ref 191), none, some (.int x2), some (.int x3), none, none, none, none] [.int (40 : Int32), .int x3] (mk c S) from ?_)
    refine J.cge (tgt := 117) d_M_parts_22 rfl (fun q8 => ?_) (fun q8 => ?_)
    · have H := ite_t H q8
      refine J.run b_M_parts_117_1 k_M_parts_117_1 rfl (show J w (d + 8) m_M_parts (n0, z0, some (.int z.1), mk c z.2) 118 [some (.ref 191), none, some (.int x2), some (.int x3), none, none, none, none] [.int x2] (mk c S) from ?_)
      obtain rfl := some_e H
      exact J.iret d_M_parts_118 rfl rfl
    · have H := ite_f H q8
      refine J.run b_M_parts_25_2 k_M_parts_25_2 rfl (show J w (d + 8) m_M_parts (n0, z0, some (.int z.1), mk c z.2) 27 [some (.ref 191), none, some (.int x2), some (.int x3), none, none, none, none] [.int x3, .ref 191] (mk c S) from ?_)
      obtain ⟨r9, S10, h11, H⟩ := bd_e H
      refine J.callV (y := m_M_isCourse) (av := [.int x3]) (rest := []) (q := 191) l_M_123 d_M_parts_27 (isC_st rfl rfl) (c_M_isCourse w (d + 5) c  S x3 h11) rfl (Nat.le_of_ble_eq_true rfl) ⟨Nat.le_refl _, Nat.le_refl _⟩ (show J w (d + 8) m_M_parts (n0, z0, some (.int z.1), mk c z.2) 30 [some (.ref 191), none, some (.int x2), some (.int x3), none, none, none, none] [.int r9] (mk c S10) from ?_)
      refine J.run b_M_parts_30_2 k_M_parts_30_2 rfl (show J w (d + 8) m_M_parts (n0, z0, some (.int z.1), mk c z.2) 34 [some (.ref 191), none, some (.int x2), some (.int x3), some (.int r9), none, none, none] [.int r9] (mk c S10) from ?_)
      refine J.zeq (tgt := 45) d_M_parts_34 rfl (fun q12 => ?_) (fun q12 => ?_)
      · have H := ite_t H q12
        refine J.run b_M_parts_45_4 k_M_parts_45_4 rfl (show J w (d + 8) m_M_parts (n0, z0, some (.int z.1), mk c z.2) 51 [some (.ref 191), none, some (.int x2), some (.int x3), some (.int r9), some (.long (0 : Int64)), none, some (.int (0 : Int32))] [] (mk c S10) from ?_)
        refine J.mask [true, false, true, true, true, true, false, true] ?_
        refine lo_M_parts_51 w d c x2 x3 (0 : Int64) ?_ 1000 S10 r9 (0 : Int32) H
        · intro S26 y27 y28 H
          try dsimp only at H
          refine J.run b_M_parts_98_2 k_M_parts_98_2 rfl (show J w (d + 8) m_M_parts (n0, z0, some (.int z.1), mk c z.2) 101 [some (.ref 191), none, some (.int x2), some (.int x3), some (.int y27), none, none, none] [.int y27, .int x2] (mk c S26) from ?_)
          refine J.zeq (tgt := 108) d_M_parts_101 rfl (fun q29 => ?_) (fun q29 => ?_)
          · have H := ite_t H q29
            refine J.run b_M_parts_108_4 k_M_parts_108_4 rfl (show J w (d + 8) m_M_parts (n0, z0, some (.int z.1), mk c z.2) 114 [some (.ref 191), none, some (.int (x2 + (0 : Int32))), some (.int (x3 + (1 : Int32))), some (.int y27), none, none, none] [] (mk c S26) from ?_)
            refine J.goto (tgt := 19) d_M_parts_114 rfl ?_
            refine J.mask [true, false, true, true, false, false, false, false] ?_
            exact ih S26 (x2 + (0 : Int32)) (x3 + (1 : Int32)) H
          · have H := ite_f H q29
            refine J.run b_M_parts_104_1 k_M_parts_104_1 rfl (show J w (d + 8) m_M_parts (n0, z0, some (.int z.1), mk c z.2) 105 [some (.ref 191), none, some (.int x2), some (.int x3), some (.int y27), none, none, none] [.int (1 : Int32), .int x2] (mk c S26) from ?_)
            refine J.goto (tgt := 109) d_M_parts_105 rfl ?_
            refine J.run b_M_parts_109_3 k_M_parts_109_3 rfl (show J w (d + 8) m_M_parts (n0, z0, some (.int z.1), mk c z.2) 114 [some (.ref 191), none, some (.int (x2 + (1 : Int32))), some (.int (x3 + (1 : Int32))), some (.int y27), none, none, none] [] (mk c S26) from ?_)
            refine J.goto (tgt := 19) d_M_parts_114 rfl ?_
            refine J.mask [true, false, true, true, false, false, false, false] ?_
            exact ih S26 (x2 + (1 : Int32)) (x3 + (1 : Int32)) H
      · have H := ite_f H q12
        refine J.run b_M_parts_37_2 k_M_parts_37_2 rfl (show J w (d + 8) m_M_parts (n0, z0, some (.int z.1), mk c z.2) 39 [some (.ref 191), none, some (.int x2), some (.int x3), some (.int r9), none, none, none] [.int x3, .ref 191] (mk c S10) from ?_)
        obtain ⟨r30, S31, h32, H⟩ := bd_e H
        refine J.callV (y := m_M_comeTo) (av := [.int x3]) (rest := []) (q := 191) l_M_298 d_M_parts_39 (isC_st rfl rfl) (c_M_comeTo w (d + 5) c  S10 x3 h32) rfl (Nat.le_of_ble_eq_true rfl) ⟨Nat.le_refl _, Nat.le_refl _⟩ (show J w (d + 8) m_M_parts (n0, z0, some (.int z.1), mk c z.2) 42 [some (.ref 191), none, some (.int x2), some (.int x3), some (.int r9), none, none, none] [.long r30] (mk c S31) from ?_)
        refine J.goto (tgt := 46) d_M_parts_42 rfl ?_
        refine J.run b_M_parts_46_3 k_M_parts_46_3 rfl (show J w (d + 8) m_M_parts (n0, z0, some (.int z.1), mk c z.2) 51 [some (.ref 191), none, some (.int x2), some (.int x3), some (.int r9), some (.long r30), none, some (.int (0 : Int32))] [] (mk c S31) from ?_)
        refine J.mask [true, false, true, true, true, true, false, true] ?_
        refine lo_M_parts_51 w d c x2 x3 r30 ?_ 1000 S31 r9 (0 : Int32) H
        · intro S33 y34 y35 H
          try dsimp only at H
          refine J.run b_M_parts_98_2 k_M_parts_98_2 rfl (show J w (d + 8) m_M_parts (n0, z0, some (.int z.1), mk c z.2) 101 [some (.ref 191), none, some (.int x2), some (.int x3), some (.int y34), none, none, none] [.int y34, .int x2] (mk c S33) from ?_)
          refine J.zeq (tgt := 108) d_M_parts_101 rfl (fun q36 => ?_) (fun q36 => ?_)
          · have H := ite_t H q36
            refine J.run b_M_parts_108_4 k_M_parts_108_4 rfl (show J w (d + 8) m_M_parts (n0, z0, some (.int z.1), mk c z.2) 114 [some (.ref 191), none, some (.int (x2 + (0 : Int32))), some (.int (x3 + (1 : Int32))), some (.int y34), none, none, none] [] (mk c S33) from ?_)
            refine J.goto (tgt := 19) d_M_parts_114 rfl ?_
            refine J.mask [true, false, true, true, false, false, false, false] ?_
            exact ih S33 (x2 + (0 : Int32)) (x3 + (1 : Int32)) H
          · have H := ite_f H q36
            refine J.run b_M_parts_104_1 k_M_parts_104_1 rfl (show J w (d + 8) m_M_parts (n0, z0, some (.int z.1), mk c z.2) 105 [some (.ref 191), none, some (.int x2), some (.int x3), some (.int y34), none, none, none] [.int (1 : Int32), .int x2] (mk c S33) from ?_)
            refine J.goto (tgt := 109) d_M_parts_105 rfl ?_
            refine J.run b_M_parts_109_3 k_M_parts_109_3 rfl (show J w (d + 8) m_M_parts (n0, z0, some (.int z.1), mk c z.2) 114 [some (.ref 191), none, some (.int (x2 + (1 : Int32))), some (.int (x3 + (1 : Int32))), some (.int y34), none, none, none] [] (mk c S33) from ?_)
            refine J.goto (tgt := 19) d_M_parts_114 rfl ?_
            refine J.mask [true, false, true, true, false, false, false, false] ?_
            exact ih S33 (x2 + (1 : Int32)) (x3 + (1 : Int32)) H
theorem c_M_parts (w : Wd) (d : Nat) (c : cx)   (S : hs) (x1 : Int32)  {z : Int32 × hs} (H : f_M_parts S x1 = some z) : Cl w (d + 8) m_M_parts [.ref 191, .int x1] (mk c S) (some (.int z.1)) (mk c z.2) := by
  refine Cl.of (Nat.le_refl _) (Nat.le_refl _) (by decide +kernel) (Nat.le_of_ble_eq_true rfl) ?_
  unfold f_M_parts at H
  generalize hN (mk c S) = n0
  generalize hZ (mk c S) = z0
  show J w (d + 8) m_M_parts (n0, z0, some (.int z.1), mk c z.2) 0 [some (.ref 191), some (.int x1), none, none, none, none, none, none] [] (mk c S)
  refine J.run b_M_parts_0_1 k_M_parts_0_1 rfl (show J w (d + 8) m_M_parts (n0, z0, some (.int z.1), mk c z.2) 1 [some (.ref 191), some (.int x1), none, none, none, none, none, none] [.int x1] (mk c S) from ?_)
  obtain ⟨r1, S2, h3, H⟩ := bd_e H
  refine J.callS (y := m_M_isWidth) (av := [.int x1]) (rest := []) l_M_175 d_M_parts_1 (c_M_isWidth w (d + 5) c  S x1 h3) rfl (Nat.le_of_ble_eq_true rfl) ⟨Nat.le_refl _, Nat.le_refl _⟩ (show J w (d + 8) m_M_parts (n0, z0, some (.int z.1), mk c z.2) 4 [some (.ref 191), some (.int x1), none, none, none, none, none, none] [.int r1] (mk c S2) from ?_)
  refine J.zne (tgt := 9) d_M_parts_4 rfl (fun q4 => ?_) (fun q4 => ?_)
  · have H := ite_f H q4
    refine J.run b_M_parts_9_3 k_M_parts_9_3 rfl (show J w (d + 8) m_M_parts (n0, z0, some (.int z.1), mk c z.2) 12 [some (.ref 191), some (.int x1), none, none, none, none, none, none] [.int (0 : Int32), .int x1, .ref 191] (mk c S2) from ?_)
    obtain ⟨r5, S6, h7, H⟩ := bd_e H
    refine J.callV (y := m_M_findOnto) (av := [.int x1, .int (0 : Int32)]) (rest := []) (q := 191) l_M_280 d_M_parts_12 (isC_st rfl rfl) (c_M_findOnto w (d + 0) c  S2 x1 (0 : Int32) h7) rfl (Nat.le_of_ble_eq_true rfl) ⟨Nat.le_refl _, Nat.le_refl _⟩ (show J w (d + 8) m_M_parts (n0, z0, some (.int z.1), mk c z.2) 15 [some (.ref 191), some (.int x1), none, none, none, none, none, none] [] (mk c S6) from ?_)
    refine J.run b_M_parts_15_4 k_M_parts_15_4 rfl (show J w (d + 8) m_M_parts (n0, z0, some (.int z.1), mk c z.2) 19 [some (.ref 191), some (.int x1), some (.int (0 : Int32)), some (.int (0 : Int32)), none, none, none, none] [] (mk c S6) from ?_)
    refine J.mask [true, false, true, true, false, false, false, false] ?_
    refine lo_M_parts_19 w d c   1000 S6 (0 : Int32) (0 : Int32) H
  · have H := ite_t H q4
    refine J.run b_M_parts_7_1 k_M_parts_7_1 rfl (show J w (d + 8) m_M_parts (n0, z0, some (.int z.1), mk c z.2) 8 [some (.ref 191), some (.int x1), none, none, none, none, none, none] [.int (-1 : Int32)] (mk c S2) from ?_)
    obtain rfl := some_e H
    exact J.iret d_M_parts_8 rfl rfl
def b_M_loop_0_2 : List Ins := [(.aload_n 0, 0, 0, 0), (.iload_n 1, 0, 0, 0)]
theorem k_M_loop_0_2 : bok m_M_loop 0 b_M_loop_0_2 = true := by decide +kernel
def b_M_loop_15_1 : List Ins := [(.iconst (-1), 0, 0, 0)]
theorem k_M_loop_15_1 : bok m_M_loop 15 b_M_loop_15_1 = true := by decide +kernel
def b_M_loop_8_1 : List Ins := [(.iload_n 2, 0, 0, 0)]
theorem k_M_loop_8_1 : bok m_M_loop 8 b_M_loop_8_1 = true := by decide +kernel
def b_M_loop_17_3 : List Ins := [(.aload_n 0, 0, 0, 0), (.iload_n 2, 0, 0, 0), (.iconst (0), 0, 0, 0)]
theorem k_M_loop_17_3 : bok m_M_loop 17 b_M_loop_17_3 = true := by decide +kernel
def b_M_loop_23_4 : List Ins := [(.ldc_w 273, 0, 100000, 0), (.istore_n 3, 0, 0, 0), (.iconst (0), 0, 0, 0), (.istore 4, 0, 0, 0)]
theorem k_M_loop_23_4 : bok m_M_loop 23 b_M_loop_23_4 = true := by decide +kernel
def b_M_loop_30_2 : List Ins := [(.iload 4, 0, 0, 0), (.bipush (40), 0, 0, 0)]
theorem k_M_loop_30_2 : bok m_M_loop 30 b_M_loop_30_2 = true := by decide +kernel
def b_M_loop_37_5 : List Ins := [(.aload_n 0, 0, 0, 0), (.getfield 68, 11, 18, 2), (.iload_n 1, 0, 0, 0), (.laload, 0, 0, 0), (.iload 4, 0, 0, 0)]
theorem k_M_loop_37_5 : bok m_M_loop 37 b_M_loop_37_5 = true := by decide +kernel
def b_M_loop_77_1 : List Ins := [(.iinc 4 (1), 0, 0, 0)]
theorem k_M_loop_77_1 : bok m_M_loop 77 b_M_loop_77_1 = true := by decide +kernel
def b_M_loop_51_2 : List Ins := [(.aload_n 0, 0, 0, 0), (.iload 4, 0, 0, 0)]
theorem k_M_loop_51_2 : bok m_M_loop 51 b_M_loop_51_2 = true := by decide +kernel
def b_M_loop_57_5 : List Ins := [(.iload_n 3, 0, 0, 0), (.aload_n 0, 0, 0, 0), (.iload 4, 0, 0, 0), (.iconst (2), 0, 0, 0), (.idiv, 0, 0, 0)]
theorem k_M_loop_57_5 : bok m_M_loop 57 b_M_loop_57_5 = true := by decide +kernel
def b_M_loop_66_5 : List Ins := [(.aload_n 0, 0, 0, 0), (.getfield 72, 11, 19, 2), (.iload_n 1, 0, 0, 0), (.iaload, 0, 0, 0), (.iadd, 0, 0, 0)]
theorem k_M_loop_66_5 : bok m_M_loop 66 b_M_loop_66_5 = true := by decide +kernel
def b_M_loop_76_2 : List Ins := [(.istore_n 3, 0, 0, 0), (.iinc 4 (1), 0, 0, 0)]
theorem k_M_loop_76_2 : bok m_M_loop 76 b_M_loop_76_2 = true := by decide +kernel
def b_M_loop_83_2 : List Ins := [(.iload_n 3, 0, 0, 0), (.ldc_w 273, 0, 100000, 0)]
theorem k_M_loop_83_2 : bok m_M_loop 83 b_M_loop_83_2 = true := by decide +kernel
def b_M_loop_95_1 : List Ins := [(.iload_n 3, 0, 0, 0)]
theorem k_M_loop_95_1 : bok m_M_loop 95 b_M_loop_95_1 = true := by decide +kernel
def b_M_loop_90_1 : List Ins := [(.bipush (-3), 0, 0, 0)]
theorem k_M_loop_90_1 : bok m_M_loop 90 b_M_loop_90_1 = true := by decide +kernel
theorem d_M_loop_2 : decode m_M_loop.2.1 2 = .ok (.invokevirtual 123, 3) := by decide +kernel
theorem d_M_loop_5 : decode m_M_loop.2.1 5 = .ok (.ifCond .eq (10), 3) := by decide +kernel
theorem d_M_loop_16 : decode m_M_loop.2.1 16 = .ok (.ireturn, 1) := by decide +kernel
theorem d_M_loop_9 : decode m_M_loop.2.1 9 = .ok (.invokestatic 175, 3) := by decide +kernel
theorem d_M_loop_12 : decode m_M_loop.2.1 12 = .ok (.ifCond .ne (5), 3) := by decide +kernel
theorem d_M_loop_20 : decode m_M_loop.2.1 20 = .ok (.invokevirtual 280, 3) := by decide +kernel
theorem d_M_loop_34 : decode m_M_loop.2.1 34 = .ok (.if_icmp .ge (49), 3) := by decide +kernel
theorem d_M_loop_45 : decode m_M_loop.2.1 45 = .ok (.invokestatic 160, 3) := by decide +kernel
theorem d_M_loop_48 : decode m_M_loop.2.1 48 = .ok (.ifCond .eq (29), 3) := by decide +kernel
theorem d_M_loop_80 : decode m_M_loop.2.1 80 = .ok (.goto (-50), 3) := by decide +kernel
theorem d_M_loop_54 : decode m_M_loop.2.1 54 = .ok (.invokevirtual 274, 3) := by decide +kernel
theorem d_M_loop_63 : decode m_M_loop.2.1 63 = .ok (.invokevirtual 142, 3) := by decide +kernel
theorem d_M_loop_73 : decode m_M_loop.2.1 73 = .ok (.invokestatic 290, 3) := by decide +kernel
theorem d_M_loop_87 : decode m_M_loop.2.1 87 = .ok (.if_icmp .lt (8), 3) := by decide +kernel
theorem d_M_loop_96 : decode m_M_loop.2.1 96 = .ok (.ireturn, 1) := by decide +kernel
theorem d_M_loop_92 : decode m_M_loop.2.1 92 = .ok (.goto (4), 3) := by decide +kernel
def lp_M_loop_30 (x1 : Int32)  (K0 : hs → Int32 → Int32 → Option (Int32 × hs)) : Nat → hs → Int32 → Int32 → Option (Int32 × hs)
  | 0, _, _, _ => none
  | n + 1, S, x3, x4 => (if (40 : Int32) ≤ x4 then K0 S x3 x4 else ck (inb x1 40) (bd (f_M_hasBit  S (gJ S 201 (x1).toNatClampNeg) x4) fun r14 S15 => (if r14 = 0 then lp_M_loop_30 x1 K0 n S15 x3 (x4 + (1 : Int32)) else bd (f_M_findFar  S15 x4) fun r18 S19 => bd (f_M_longOf  S19 (x4 / (2 : Int32))) fun r21 S22 => bd (f_Ma_min  S22 x3 (r21 + (gI S22 202 (x1).toNatClampNeg))) fun r24 S25 => lp_M_loop_30 x1 K0 n S25 r24 (x4 + (1 : Int32)))))
def f_M_loop  (S : hs) (x1 : Int32) (x2 : Int32) : Option (Int32 × hs) := bd (f_M_isCourse  S x1) fun r1 S2 => (if r1 = 0 then some ((-1 : Int32), S2) else bd (f_M_isWidth  S2 x2) fun r5 S6 => (if r5 = 0 then some ((-1 : Int32), S6) else bd (f_M_findOnto  S6 x2 (0 : Int32)) fun r9 S10 => lp_M_loop_30 x1 (fun (S27 : hs) (y28 : Int32) (y29 : Int32) => (if y28 < (100000 : Int32) then some (y28, S27) else some ((-3 : Int32), S27))) 1000 S10 (100000 : Int32) (0 : Int32)))
theorem lo_M_loop_30 (w : Wd) (d : Nat) (c : cx) {n0 z0 : Nat} {z : Int32 × hs}  {K0 : hs → Int32 → Int32 → Option (Int32 × hs)} (x1 : Int32)   (hK0 : ∀ (S : hs) (x3 : Int32) (x4 : Int32), K0 S x3 x4 = some z → J w (d + 8) m_M_loop (n0, z0, some (.int z.1), mk c z.2) 83 [none, none, none, some (.int x3), none] [] (mk c S)) :
    ∀ (n : Nat) (S : hs) (x3 : Int32) (x4 : Int32), lp_M_loop_30 x1 K0 n S x3 x4 = some z → J w (d + 8) m_M_loop (n0, z0, some (.int z.1), mk c z.2) 30 [some (.ref 191), some (.int x1), none, some (.int x3), some (.int x4)] [] (mk c S) := by
  intro n
  induction n with
  | zero => intro S x3 x4 H; cases H
  | succ n ih =>
    intro S x3 x4 H
    rw [lp_M_loop_30] at H
    refine J.run b_M_loop_30_2 k_M_loop_30_2 rfl (show J w (d + 8) m_M_loop (n0, z0, some (.int z.1), mk c z.2) 34 [some (.ref 191), some (.int x1), none, some (.int x3), some (.int x4)] [.int (40 : Int32), .int x4] (mk c S) from ?_)
    refine J.cge (tgt := 83) d_M_loop_34 rfl (fun q12 => ?_) (fun q12 => ?_)
    · have H := ite_t H q12
      refine J.mask [false, false, false, true, false] ?_
      exact hK0 S x3 x4 H
    · have H := ite_f H q12
      obtain ⟨g13, H⟩ := ck_e H
      refine J.run b_M_loop_37_5 k_M_loop_37_5 rfl (And.intro (okO_st (S := S) rfl) (And.intro (okA_st (S := S) (n := 40) rfl g13) (show J w (d + 8) m_M_loop (n0, z0, some (.int z.1), mk c z.2) 45 [some (.ref 191), some (.int x1), none, some (.int x3), some (.int x4)] [.int x4, .long (gJ S 201 (x1).toNatClampNeg)] (mk c S) from ?_)))
      obtain ⟨r14, S15, h16, H⟩ := bd_e H
      refine J.callS (y := m_M_hasBit) (av := [.long (gJ S 201 (x1).toNatClampNeg), .int x4]) (rest := []) l_M_160 d_M_loop_45 (c_M_hasBit w (d + 6) c  S (gJ S 201 (x1).toNatClampNeg) x4 h16) rfl (Nat.le_of_ble_eq_true rfl) ⟨Nat.le_refl _, Nat.le_refl _⟩ (show J w (d + 8) m_M_loop (n0, z0, some (.int z.1), mk c z.2) 48 [some (.ref 191), some (.int x1), none, some (.int x3), some (.int x4)] [.int r14] (mk c S15) from ?_)
      refine J.zeq (tgt := 77) d_M_loop_48 rfl (fun q17 => ?_) (fun q17 => ?_)
      · have H := ite_t H q17
        refine J.run b_M_loop_77_1 k_M_loop_77_1 rfl (show J w (d + 8) m_M_loop (n0, z0, some (.int z.1), mk c z.2) 80 [some (.ref 191), some (.int x1), none, some (.int x3), some (.int (x4 + (1 : Int32)))] [] (mk c S15) from ?_)
        refine J.goto (tgt := 30) d_M_loop_80 rfl ?_
        refine J.mask [true, true, false, true, true] ?_
        exact ih S15 x3 (x4 + (1 : Int32)) H
      · have H := ite_f H q17
        refine J.run b_M_loop_51_2 k_M_loop_51_2 rfl (show J w (d + 8) m_M_loop (n0, z0, some (.int z.1), mk c z.2) 54 [some (.ref 191), some (.int x1), none, some (.int x3), some (.int x4)] [.int x4, .ref 191] (mk c S15) from ?_)
        obtain ⟨r18, S19, h20, H⟩ := bd_e H
        refine J.callV (y := m_M_findFar) (av := [.int x4]) (rest := []) (q := 191) l_M_274 d_M_loop_54 (isC_st rfl rfl) (c_M_findFar w (d + 4) c  S15 x4 h20) rfl (Nat.le_of_ble_eq_true rfl) ⟨Nat.le_refl _, Nat.le_refl _⟩ (show J w (d + 8) m_M_loop (n0, z0, some (.int z.1), mk c z.2) 57 [some (.ref 191), some (.int x1), none, some (.int x3), some (.int x4)] [] (mk c S19) from ?_)
        refine J.run b_M_loop_57_5 k_M_loop_57_5 rfl (And.intro (by decide) (show J w (d + 8) m_M_loop (n0, z0, some (.int z.1), mk c z.2) 63 [some (.ref 191), some (.int x1), none, some (.int x3), some (.int x4)] [.int (x4 / (2 : Int32)), .ref 191, .int x3] (mk c S19) from ?_))
        obtain ⟨r21, S22, h23, H⟩ := bd_e H
        refine J.callV (y := m_M_longOf) (av := [.int (x4 / (2 : Int32))]) (rest := [.int x3]) (q := 191) l_M_142 d_M_loop_63 (isC_st rfl rfl) (c_M_longOf w (d + 5) c  S19 (x4 / (2 : Int32)) h23) rfl (Nat.le_of_ble_eq_true rfl) ⟨Nat.le_refl _, Nat.le_refl _⟩ (show J w (d + 8) m_M_loop (n0, z0, some (.int z.1), mk c z.2) 66 [some (.ref 191), some (.int x1), none, some (.int x3), some (.int x4)] [.int r21, .int x3] (mk c S22) from ?_)
        refine J.run b_M_loop_66_5 k_M_loop_66_5 rfl (And.intro (okO_st (S := S22) rfl) (And.intro (okA_st (S := S22) (n := 40) rfl g13) (show J w (d + 8) m_M_loop (n0, z0, some (.int z.1), mk c z.2) 73 [some (.ref 191), some (.int x1), none, some (.int x3), some (.int x4)] [.int (r21 + (gI S22 202 (x1).toNatClampNeg)), .int x3] (mk c S22) from ?_)))
        obtain ⟨r24, S25, h26, H⟩ := bd_e H
        refine J.callS (y := m_Ma_min) (av := [.int x3, .int (r21 + (gI S22 202 (x1).toNatClampNeg))]) (rest := []) l_M_290 d_M_loop_73 (c_Ma_min w (d + 6) c  S22 x3 (r21 + (gI S22 202 (x1).toNatClampNeg)) h26) rfl (Nat.le_of_ble_eq_true rfl) ⟨Nat.le_refl _, Nat.le_refl _⟩ (show J w (d + 8) m_M_loop (n0, z0, some (.int z.1), mk c z.2) 76 [some (.ref 191), some (.int x1), none, some (.int x3), some (.int x4)] [.int r24] (mk c S25) from ?_)
        refine J.run b_M_loop_76_2 k_M_loop_76_2 rfl (show J w (d + 8) m_M_loop (n0, z0, some (.int z.1), mk c z.2) 80 [some (.ref 191), some (.int x1), none, some (.int r24), some (.int (x4 + (1 : Int32)))] [] (mk c S25) from ?_)
        refine J.goto (tgt := 30) d_M_loop_80 rfl ?_
        refine J.mask [true, true, false, true, true] ?_
        exact ih S25 r24 (x4 + (1 : Int32)) H
theorem c_M_loop (w : Wd) (d : Nat) (c : cx)   (S : hs) (x1 : Int32) (x2 : Int32)  {z : Int32 × hs} (H : f_M_loop S x1 x2 = some z) : Cl w (d + 8) m_M_loop [.ref 191, .int x1, .int x2] (mk c S) (some (.int z.1)) (mk c z.2) := by
  refine Cl.of (Nat.le_refl _) (Nat.le_refl _) (by decide +kernel) (Nat.le_of_ble_eq_true rfl) ?_
  unfold f_M_loop at H
  generalize hN (mk c S) = n0
  generalize hZ (mk c S) = z0
  show J w (d + 8) m_M_loop (n0, z0, some (.int z.1), mk c z.2) 0 [some (.ref 191), some (.int x1), some (.int x2), none, none] [] (mk c S)
  refine J.run b_M_loop_0_2 k_M_loop_0_2 rfl (show J w (d + 8) m_M_loop (n0, z0, some (.int z.1), mk c z.2) 2 [some (.ref 191), some (.int x1), some (.int x2), none, none] [.int x1, .ref 191] (mk c S) from ?_)
  obtain ⟨r1, S2, h3, H⟩ := bd_e H
  refine J.callV (y := m_M_isCourse) (av := [.int x1]) (rest := []) (q := 191) l_M_123 d_M_loop_2 (isC_st rfl rfl) (c_M_isCourse w (d + 5) c  S x1 h3) rfl (Nat.le_of_ble_eq_true rfl) ⟨Nat.le_refl _, Nat.le_refl _⟩ (show J w (d + 8) m_M_loop (n0, z0, some (.int z.1), mk c z.2) 5 [some (.ref 191), some (.int x1), some (.int x2), none, none] [.int r1] (mk c S2) from ?_)
  refine J.zeq (tgt := 15) d_M_loop_5 rfl (fun q4 => ?_) (fun q4 => ?_)
  · have H := ite_t H q4
    refine J.run b_M_loop_15_1 k_M_loop_15_1 rfl (show J w (d + 8) m_M_loop (n0, z0, some (.int z.1), mk c z.2) 16 [some (.ref 191), some (.int x1), some (.int x2), none, none] [.int (-1 : Int32)] (mk c S2) from ?_)
    obtain rfl := some_e H
    exact J.iret d_M_loop_16 rfl rfl
  · have H := ite_f H q4
    refine J.run b_M_loop_8_1 k_M_loop_8_1 rfl (show J w (d + 8) m_M_loop (n0, z0, some (.int z.1), mk c z.2) 9 [some (.ref 191), some (.int x1), some (.int x2), none, none] [.int x2] (mk c S2) from ?_)
    obtain ⟨r5, S6, h7, H⟩ := bd_e H
    refine J.callS (y := m_M_isWidth) (av := [.int x2]) (rest := []) l_M_175 d_M_loop_9 (c_M_isWidth w (d + 5) c  S2 x2 h7) rfl (Nat.le_of_ble_eq_true rfl) ⟨Nat.le_refl _, Nat.le_refl _⟩ (show J w (d + 8) m_M_loop (n0, z0, some (.int z.1), mk c z.2) 12 [some (.ref 191), some (.int x1), some (.int x2), none, none] [.int r5] (mk c S6) from ?_)
    refine J.zne (tgt := 17) d_M_loop_12 rfl (fun q8 => ?_) (fun q8 => ?_)
    · have H := ite_f H q8
      refine J.run b_M_loop_17_3 k_M_loop_17_3 rfl (show J w (d + 8) m_M_loop (n0, z0, some (.int z.1), mk c z.2) 20 [some (.ref 191), some (.int x1), some (.int x2), none, none] [.int (0 : Int32), .int x2, .ref 191] (mk c S6) from ?_)
      obtain ⟨r9, S10, h11, H⟩ := bd_e H
      refine J.callV (y := m_M_findOnto) (av := [.int x2, .int (0 : Int32)]) (rest := []) (q := 191) l_M_280 d_M_loop_20 (isC_st rfl rfl) (c_M_findOnto w (d + 0) c  S6 x2 (0 : Int32) h11) rfl (Nat.le_of_ble_eq_true rfl) ⟨Nat.le_refl _, Nat.le_refl _⟩ (show J w (d + 8) m_M_loop (n0, z0, some (.int z.1), mk c z.2) 23 [some (.ref 191), some (.int x1), some (.int x2), none, none] [] (mk c S10) from ?_)
      refine J.run b_M_loop_23_4 k_M_loop_23_4 rfl (show J w (d + 8) m_M_loop (n0, z0, some (.int z.1), mk c z.2) 30 [some (.ref 191), some (.int x1), some (.int x2), some (.int (100000 : Int32)), some (.int (0 : Int32))] [] (mk c S10) from ?_)
      refine J.mask [true, true, false, true, true] ?_
      refine lo_M_loop_30 w d c x1 ?_ 1000 S10 (100000 : Int32) (0 : Int32) H
      · intro S27 y28 y29 H
        try dsimp only at H
        refine J.run b_M_loop_83_2 k_M_loop_83_2 rfl (show J w (d + 8) m_M_loop (n0, z0, some (.int z.1), mk c z.2) 87 [none, none, none, some (.int y28), none] [.int (100000 : Int32), .int y28] (mk c S27) from ?_)
        refine J.clt (tgt := 95) d_M_loop_87 rfl (fun q30 => ?_) (fun q30 => ?_)
        · have H := ite_t H q30
          refine J.run b_M_loop_95_1 k_M_loop_95_1 rfl (show J w (d + 8) m_M_loop (n0, z0, some (.int z.1), mk c z.2) 96 [none, none, none, some (.int y28), none] [.int y28] (mk c S27) from ?_)
          obtain rfl := some_e H
          exact J.iret d_M_loop_96 rfl rfl
        · have H := ite_f H q30
          refine J.run b_M_loop_90_1 k_M_loop_90_1 rfl (show J w (d + 8) m_M_loop (n0, z0, some (.int z.1), mk c z.2) 92 [none, none, none, some (.int y28), none] [.int (-3 : Int32)] (mk c S27) from ?_)
          refine J.goto (tgt := 96) d_M_loop_92 rfl ?_
          obtain rfl := some_e H
          exact J.iret d_M_loop_96 rfl rfl
    · have H := ite_t H q8
      refine J.run b_M_loop_15_1 k_M_loop_15_1 rfl (show J w (d + 8) m_M_loop (n0, z0, some (.int z.1), mk c z.2) 16 [some (.ref 191), some (.int x1), some (.int x2), none, none] [.int (-1 : Int32)] (mk c S6) from ?_)
      obtain rfl := some_e H
      exact J.iret d_M_loop_16 rfl rfl
def b_M_worst_0_1 : List Ins := [(.iload_n 1, 0, 0, 0)]
theorem k_M_worst_0_1 : bok m_M_worst 0 b_M_worst_0_1 = true := by decide +kernel
def b_M_worst_9_3 : List Ins := [(.aload_n 0, 0, 0, 0), (.iload_n 1, 0, 0, 0), (.iconst (0), 0, 0, 0)]
theorem k_M_worst_9_3 : bok m_M_worst 9 b_M_worst_9_3 = true := by decide +kernel
def b_M_worst_15_4 : List Ins := [(.iconst (-1), 0, 0, 0), (.istore_n 2, 0, 0, 0), (.iconst (0), 0, 0, 0), (.istore_n 3, 0, 0, 0)]
theorem k_M_worst_15_4 : bok m_M_worst 15 b_M_worst_15_4 = true := by decide +kernel
def b_M_worst_19_2 : List Ins := [(.iload_n 3, 0, 0, 0), (.bipush (40), 0, 0, 0)]
theorem k_M_worst_19_2 : bok m_M_worst 19 b_M_worst_19_2 = true := by decide +kernel
def b_M_worst_25_2 : List Ins := [(.aload_n 0, 0, 0, 0), (.iload_n 3, 0, 0, 0)]
theorem k_M_worst_25_2 : bok m_M_worst 25 b_M_worst_25_2 = true := by decide +kernel
def b_M_worst_102_1 : List Ins := [(.iinc 3 (1), 0, 0, 0)]
theorem k_M_worst_102_1 : bok m_M_worst 102 b_M_worst_102_1 = true := by decide +kernel
def b_M_worst_33_2 : List Ins := [(.aload_n 0, 0, 0, 0), (.iload_n 3, 0, 0, 0)]
theorem k_M_worst_33_2 : bok m_M_worst 33 b_M_worst_33_2 = true := by decide +kernel
def b_M_worst_38_3 : List Ins := [(.aload_n 0, 0, 0, 0), (.aload_n 0, 0, 0, 0), (.iload_n 3, 0, 0, 0)]
theorem k_M_worst_38_3 : bok m_M_worst 38 b_M_worst_38_3 = true := by decide +kernel
def b_M_worst_47_2 : List Ins := [(.iconst (0), 0, 0, 0), (.istore 4, 0, 0, 0)]
theorem k_M_worst_47_2 : bok m_M_worst 47 b_M_worst_47_2 = true := by decide +kernel
def b_M_worst_50_5 : List Ins := [(.iload 4, 0, 0, 0), (.aload_n 0, 0, 0, 0), (.getfield 9, 11, 0, 2), (.iconst (1), 0, 0, 0), (.iaload, 0, 0, 0)]
theorem k_M_worst_50_5 : bok m_M_worst 50 b_M_worst_50_5 = true := by decide +kernel
def b_M_worst_61_2 : List Ins := [(.aload_n 0, 0, 0, 0), (.iload 4, 0, 0, 0)]
theorem k_M_worst_61_2 : bok m_M_worst 61 b_M_worst_61_2 = true := by decide +kernel
def b_M_worst_67_3 : List Ins := [(.istore 5, 0, 0, 0), (.iload 5, 0, 0, 0), (.ldc_w 273, 0, 100000, 0)]
theorem k_M_worst_67_3 : bok m_M_worst 67 b_M_worst_67_3 = true := by decide +kernel
def b_M_worst_94_3 : List Ins := [(.iload_n 2, 0, 0, 0), (.istore_n 2, 0, 0, 0), (.iinc 4 (1), 0, 0, 0)]
theorem k_M_worst_94_3 : bok m_M_worst 94 b_M_worst_94_3 = true := by decide +kernel
def b_M_worst_77_7 : List Ins := [(.iload_n 2, 0, 0, 0), (.iload 5, 0, 0, 0), (.aload_n 0, 0, 0, 0), (.getfield 75, 11, 20, 2), (.iload 4, 0, 0, 0), (.iaload, 0, 0, 0), (.isub, 0, 0, 0)]
theorem k_M_worst_77_7 : bok m_M_worst 77 b_M_worst_77_7 = true := by decide +kernel
def b_M_worst_95_2 : List Ins := [(.istore_n 2, 0, 0, 0), (.iinc 4 (1), 0, 0, 0)]
theorem k_M_worst_95_2 : bok m_M_worst 95 b_M_worst_95_2 = true := by decide +kernel
def b_M_worst_108_1 : List Ins := [(.iload_n 2, 0, 0, 0)]
theorem k_M_worst_108_1 : bok m_M_worst 108 b_M_worst_108_1 = true := by decide +kernel
def b_M_worst_117_1 : List Ins := [(.iload_n 2, 0, 0, 0)]
theorem k_M_worst_117_1 : bok m_M_worst 117 b_M_worst_117_1 = true := by decide +kernel
def b_M_worst_112_1 : List Ins := [(.bipush (-3), 0, 0, 0)]
theorem k_M_worst_112_1 : bok m_M_worst 112 b_M_worst_112_1 = true := by decide +kernel
def b_M_worst_7_1 : List Ins := [(.iconst (-1), 0, 0, 0)]
theorem k_M_worst_7_1 : bok m_M_worst 7 b_M_worst_7_1 = true := by decide +kernel
theorem d_M_worst_1 : decode m_M_worst.2.1 1 = .ok (.invokestatic 175, 3) := by decide +kernel
theorem d_M_worst_4 : decode m_M_worst.2.1 4 = .ok (.ifCond .ne (5), 3) := by decide +kernel
theorem d_M_worst_12 : decode m_M_worst.2.1 12 = .ok (.invokevirtual 280, 3) := by decide +kernel
theorem d_M_worst_22 : decode m_M_worst.2.1 22 = .ok (.if_icmp .ge (86), 3) := by decide +kernel
theorem d_M_worst_27 : decode m_M_worst.2.1 27 = .ok (.invokevirtual 123, 3) := by decide +kernel
theorem d_M_worst_30 : decode m_M_worst.2.1 30 = .ok (.ifCond .eq (72), 3) := by decide +kernel
theorem d_M_worst_105 : decode m_M_worst.2.1 105 = .ok (.goto (-86), 3) := by decide +kernel
theorem d_M_worst_35 : decode m_M_worst.2.1 35 = .ok (.invokevirtual 274, 3) := by decide +kernel
theorem d_M_worst_41 : decode m_M_worst.2.1 41 = .ok (.invokevirtual 130, 3) := by decide +kernel
theorem d_M_worst_44 : decode m_M_worst.2.1 44 = .ok (.invokevirtual 293, 3) := by decide +kernel
theorem d_M_worst_58 : decode m_M_worst.2.1 58 = .ok (.if_icmp .ge (44), 3) := by decide +kernel
theorem d_M_worst_64 : decode m_M_worst.2.1 64 = .ok (.invokevirtual 277, 3) := by decide +kernel
theorem d_M_worst_74 : decode m_M_worst.2.1 74 = .ok (.if_icmp .ge (20), 3) := by decide +kernel
theorem d_M_worst_99 : decode m_M_worst.2.1 99 = .ok (.goto (-49), 3) := by decide +kernel
theorem d_M_worst_88 : decode m_M_worst.2.1 88 = .ok (.invokestatic 258, 3) := by decide +kernel
theorem d_M_worst_91 : decode m_M_worst.2.1 91 = .ok (.goto (4), 3) := by decide +kernel
theorem d_M_worst_109 : decode m_M_worst.2.1 109 = .ok (.ifCond .ge (8), 3) := by decide +kernel
theorem d_M_worst_118 : decode m_M_worst.2.1 118 = .ok (.ireturn, 1) := by decide +kernel
theorem d_M_worst_114 : decode m_M_worst.2.1 114 = .ok (.goto (4), 3) := by decide +kernel
theorem d_M_worst_8 : decode m_M_worst.2.1 8 = .ok (.ireturn, 1) := by decide +kernel
def lp_M_worst_50 (x3 : Int32)  (K0 : hs → Int32 → Int32 → Option (Int32 × hs)) : Nat → hs → Int32 → Int32 → Option (Int32 × hs)
  | 0, _, _, _ => none
  | n + 1, S, x2, x4 => (if (gI S 192 1) ≤ x4 then K0 S x2 x4 else bd (f_M_farTo  S x4) fun r23 S24 => (if (100000 : Int32) ≤ r23 then lp_M_worst_50 x3 K0 n S24 x2 (x4 + (1 : Int32)) else ck (inb x4 12) (bd (f_Ma_max  S24 x2 (r23 - (gI S24 203 (x4).toNatClampNeg))) fun r28 S29 => lp_M_worst_50 x3 K0 n S29 r28 (x4 + (1 : Int32)))))
def lp_M_worst_19   (K0 : hs → Int32 → Int32 → Option (Int32 × hs)) : Nat → hs → Int32 → Int32 → Option (Int32 × hs)
  | 0, _, _, _ => none
  | n + 1, S, x2, x3 => (if (40 : Int32) ≤ x3 then K0 S x2 x3 else bd (f_M_isCourse  S x3) fun r9 S10 => (if r9 = 0 then lp_M_worst_19 K0 n S10 x2 (x3 + (1 : Int32)) else bd (f_M_findFar  S10 x3) fun r13 S14 => bd (f_M_endOf  S14 x3) fun r16 S17 => bd (f_M_findFree  S17 r16) fun r19 S20 => lp_M_worst_50 x3 (fun (S31 : hs) (y32 : Int32) (y33 : Int32) => lp_M_worst_19 K0 n S31 y32 (x3 + (1 : Int32))) 1000 S20 x2 (0 : Int32)))
def f_M_worst  (S : hs) (x1 : Int32) : Option (Int32 × hs) := bd (f_M_isWidth  S x1) fun r1 S2 => (if r1 = 0 then some ((-1 : Int32), S2) else bd (f_M_findOnto  S2 x1 (0 : Int32)) fun r5 S6 => lp_M_worst_19 (fun (S34 : hs) (y35 : Int32) (y36 : Int32) => (if 0 ≤ y35 then some (y35, S34) else some ((-3 : Int32), S34))) 1000 S6 (-1 : Int32) (0 : Int32))
theorem lo_M_worst_50 (w : Wd) (d : Nat) (c : cx) {n0 z0 : Nat} {z : Int32 × hs}  {K0 : hs → Int32 → Int32 → Option (Int32 × hs)} (x3 : Int32)   (hK0 : ∀ (S : hs) (x2 : Int32) (x4 : Int32), K0 S x2 x4 = some z → J w (d + 8) m_M_worst (n0, z0, some (.int z.1), mk c z.2) 102 [some (.ref 191), none, some (.int x2), some (.int x3), none, none] [] (mk c S)) :
    ∀ (n : Nat) (S : hs) (x2 : Int32) (x4 : Int32), lp_M_worst_50 x3 K0 n S x2 x4 = some z → J w (d + 8) m_M_worst (n0, z0, some (.int z.1), mk c z.2) 50 [some (.ref 191), none, some (.int x2), some (.int x3), some (.int x4), none] [] (mk c S) := by
  intro n
  induction n with
  | zero => intro S x2 x4 H; cases H
  | succ n ih =>
    intro S x2 x4 H
    rw [lp_M_worst_50] at H
    refine J.run b_M_worst_50_5 k_M_worst_50_5 rfl (And.intro (okO_st (S := S) rfl) (And.intro (okA_st (S := S) (n := 358) rfl rfl) (show J w (d + 8) m_M_worst (n0, z0, some (.int z.1), mk c z.2) 58 [some (.ref 191), none, some (.int x2), some (.int x3), some (.int x4), none] [.int (gI S 192 1), .int x4] (mk c S) from ?_)))
    refine J.cge (tgt := 102) d_M_worst_58 rfl (fun q22 => ?_) (fun q22 => ?_)
    · have H := ite_t H q22
      refine J.mask [true, false, true, true, false, false] ?_
      exact hK0 S x2 x4 H
    · have H := ite_f H q22
      refine J.run b_M_worst_61_2 k_M_worst_61_2 rfl (show J w (d + 8) m_M_worst (n0, z0, some (.int z.1), mk c z.2) 64 [some (.ref 191), none, some (.int x2), some (.int x3), some (.int x4), none] [.int x4, .ref 191] (mk c S) from ?_)
      obtain ⟨r23, S24, h25, H⟩ := bd_e H
      refine J.callV (y := m_M_farTo) (av := [.int x4]) (rest := []) (q := 191) l_M_277 d_M_worst_64 (isC_st rfl rfl) (c_M_farTo w (d + 4) c  S x4 h25) rfl (Nat.le_of_ble_eq_true rfl) ⟨Nat.le_refl _, Nat.le_refl _⟩ (show J w (d + 8) m_M_worst (n0, z0, some (.int z.1), mk c z.2) 67 [some (.ref 191), none, some (.int x2), some (.int x3), some (.int x4), none] [.int r23] (mk c S24) from ?_)
      refine J.run b_M_worst_67_3 k_M_worst_67_3 rfl (show J w (d + 8) m_M_worst (n0, z0, some (.int z.1), mk c z.2) 74 [some (.ref 191), none, some (.int x2), some (.int x3), some (.int x4), some (.int r23)] [.int (100000 : Int32), .int r23] (mk c S24) from ?_)
      refine J.cge (tgt := 94) d_M_worst_74 rfl (fun q26 => ?_) (fun q26 => ?_)
      · have H := ite_t H q26
        refine J.run b_M_worst_94_3 k_M_worst_94_3 rfl (show J w (d + 8) m_M_worst (n0, z0, some (.int z.1), mk c z.2) 99 [some (.ref 191), none, some (.int x2), some (.int x3), some (.int (x4 + (1 : Int32))), some (.int r23)] [] (mk c S24) from ?_)
        refine J.goto (tgt := 50) d_M_worst_99 rfl ?_
        refine J.mask [true, false, true, true, true, false] ?_
        exact ih S24 x2 (x4 + (1 : Int32)) H
      · have H := ite_f H q26
        obtain ⟨g27, H⟩ := ck_e H
        refine J.run b_M_worst_77_7 k_M_worst_77_7 rfl (And.intro (okO_st (S := S24) rfl) (And.intro (okA_st (S := S24) (n := 12) rfl g27) (show J w (d + 8) m_M_worst (n0, z0, some (.int z.1), mk c z.2) 88 [some (.ref 191), none, some (.int x2), some (.int x3), some (.int x4), some (.int r23)] [.int (r23 - (gI S24 203 (x4).toNatClampNeg)), .int x2] (mk c S24) from ?_)))
        obtain ⟨r28, S29, h30, H⟩ := bd_e H
        refine J.callS (y := m_Ma_max) (av := [.int x2, .int (r23 - (gI S24 203 (x4).toNatClampNeg))]) (rest := []) l_M_258 d_M_worst_88 (c_Ma_max w (d + 6) c  S24 x2 (r23 - (gI S24 203 (x4).toNatClampNeg)) h30) rfl (Nat.le_of_ble_eq_true rfl) ⟨Nat.le_refl _, Nat.le_refl _⟩ (show J w (d + 8) m_M_worst (n0, z0, some (.int z.1), mk c z.2) 91 [some (.ref 191), none, some (.int x2), some (.int x3), some (.int x4), some (.int r23)] [.int r28] (mk c S29) from ?_)
        refine J.goto (tgt := 95) d_M_worst_91 rfl ?_
        refine J.run b_M_worst_95_2 k_M_worst_95_2 rfl (show J w (d + 8) m_M_worst (n0, z0, some (.int z.1), mk c z.2) 99 [some (.ref 191), none, some (.int r28), some (.int x3), some (.int (x4 + (1 : Int32))), some (.int r23)] [] (mk c S29) from ?_)
        refine J.goto (tgt := 50) d_M_worst_99 rfl ?_
        refine J.mask [true, false, true, true, true, false] ?_
        exact ih S29 r28 (x4 + (1 : Int32)) H
theorem lo_M_worst_19 (w : Wd) (d : Nat) (c : cx) {n0 z0 : Nat} {z : Int32 × hs}  {K0 : hs → Int32 → Int32 → Option (Int32 × hs)}    (hK0 : ∀ (S : hs) (x2 : Int32) (x3 : Int32), K0 S x2 x3 = some z → J w (d + 8) m_M_worst (n0, z0, some (.int z.1), mk c z.2) 108 [none, none, some (.int x2), none, none, none] [] (mk c S)) :
    ∀ (n : Nat) (S : hs) (x2 : Int32) (x3 : Int32), lp_M_worst_19 K0 n S x2 x3 = some z → J w (d + 8) m_M_worst (n0, z0, some (.int z.1), mk c z.2) 19 [some (.ref 191), none, some (.int x2), some (.int x3), none, none] [] (mk c S) := by
  intro n
  induction n with
  | zero => intro S x2 x3 H; cases H
  | succ n ih =>
    intro S x2 x3 H
    rw [lp_M_worst_19] at H
    refine J.run b_M_worst_19_2 k_M_worst_19_2 rfl (show J w (d + 8) m_M_worst (n0, z0, some (.int z.1), mk c z.2) 22 [some (.ref 191), none, some (.int x2), some (.int x3), none, none] [.int (40 : Int32), .int x3] (mk c S) from ?_)
    refine J.cge (tgt := 108) d_M_worst_22 rfl (fun q8 => ?_) (fun q8 => ?_)
    · have H := ite_t H q8
      refine J.mask [false, false, true, false, false, false] ?_
      exact hK0 S x2 x3 H
    · have H := ite_f H q8
      refine J.run b_M_worst_25_2 k_M_worst_25_2 rfl (show J w (d + 8) m_M_worst (n0, z0, some (.int z.1), mk c z.2) 27 [some (.ref 191), none, some (.int x2), some (.int x3), none, none] [.int x3, .ref 191] (mk c S) from ?_)
      obtain ⟨r9, S10, h11, H⟩ := bd_e H
      refine J.callV (y := m_M_isCourse) (av := [.int x3]) (rest := []) (q := 191) l_M_123 d_M_worst_27 (isC_st rfl rfl) (c_M_isCourse w (d + 5) c  S x3 h11) rfl (Nat.le_of_ble_eq_true rfl) ⟨Nat.le_refl _, Nat.le_refl _⟩ (show J w (d + 8) m_M_worst (n0, z0, some (.int z.1), mk c z.2) 30 [some (.ref 191), none, some (.int x2), some (.int x3), none, none] [.int r9] (mk c S10) from ?_)
      refine J.zeq (tgt := 102) d_M_worst_30 rfl (fun q12 => ?_) (fun q12 => ?_)
      · have H := ite_t H q12
        refine J.run b_M_worst_102_1 k_M_worst_102_1 rfl (show J w (d + 8) m_M_worst (n0, z0, some (.int z.1), mk c z.2) 105 [some (.ref 191), none, some (.int x2), some (.int (x3 + (1 : Int32))), none, none] [] (mk c S10) from ?_)
        refine J.goto (tgt := 19) d_M_worst_105 rfl ?_
        refine J.mask [true, false, true, true, false, false] ?_
        exact ih S10 x2 (x3 + (1 : Int32)) H
      · have H := ite_f H q12
        refine J.run b_M_worst_33_2 k_M_worst_33_2 rfl (show J w (d + 8) m_M_worst (n0, z0, some (.int z.1), mk c z.2) 35 [some (.ref 191), none, some (.int x2), some (.int x3), none, none] [.int x3, .ref 191] (mk c S10) from ?_)
        obtain ⟨r13, S14, h15, H⟩ := bd_e H
        refine J.callV (y := m_M_findFar) (av := [.int x3]) (rest := []) (q := 191) l_M_274 d_M_worst_35 (isC_st rfl rfl) (c_M_findFar w (d + 4) c  S10 x3 h15) rfl (Nat.le_of_ble_eq_true rfl) ⟨Nat.le_refl _, Nat.le_refl _⟩ (show J w (d + 8) m_M_worst (n0, z0, some (.int z.1), mk c z.2) 38 [some (.ref 191), none, some (.int x2), some (.int x3), none, none] [] (mk c S14) from ?_)
        refine J.run b_M_worst_38_3 k_M_worst_38_3 rfl (show J w (d + 8) m_M_worst (n0, z0, some (.int z.1), mk c z.2) 41 [some (.ref 191), none, some (.int x2), some (.int x3), none, none] [.int x3, .ref 191, .ref 191] (mk c S14) from ?_)
        obtain ⟨r16, S17, h18, H⟩ := bd_e H
        refine J.callV (y := m_M_endOf) (av := [.int x3]) (rest := [.ref 191]) (q := 191) l_M_130 d_M_worst_41 (isC_st rfl rfl) (c_M_endOf w (d + 5) c  S14 x3 h18) rfl (Nat.le_of_ble_eq_true rfl) ⟨Nat.le_refl _, Nat.le_refl _⟩ (show J w (d + 8) m_M_worst (n0, z0, some (.int z.1), mk c z.2) 44 [some (.ref 191), none, some (.int x2), some (.int x3), none, none] [.int r16, .ref 191] (mk c S17) from ?_)
        obtain ⟨r19, S20, h21, H⟩ := bd_e H
        refine J.callV (y := m_M_findFree) (av := [.int r16]) (rest := []) (q := 191) l_M_293 d_M_worst_44 (isC_st rfl rfl) (c_M_findFree w (d + 4) c  S17 r16 h21) rfl (Nat.le_of_ble_eq_true rfl) ⟨Nat.le_refl _, Nat.le_refl _⟩ (show J w (d + 8) m_M_worst (n0, z0, some (.int z.1), mk c z.2) 47 [some (.ref 191), none, some (.int x2), some (.int x3), none, none] [] (mk c S20) from ?_)
        refine J.run b_M_worst_47_2 k_M_worst_47_2 rfl (show J w (d + 8) m_M_worst (n0, z0, some (.int z.1), mk c z.2) 50 [some (.ref 191), none, some (.int x2), some (.int x3), some (.int (0 : Int32)), none] [] (mk c S20) from ?_)
        refine J.mask [true, false, true, true, true, false] ?_
        refine lo_M_worst_50 w d c x3 ?_ 1000 S20 x2 (0 : Int32) H
        · intro S31 y32 y33 H
          try dsimp only at H
          refine J.run b_M_worst_102_1 k_M_worst_102_1 rfl (show J w (d + 8) m_M_worst (n0, z0, some (.int z.1), mk c z.2) 105 [some (.ref 191), none, some (.int y32), some (.int (x3 + (1 : Int32))), none, none] [] (mk c S31) from ?_)
          refine J.goto (tgt := 19) d_M_worst_105 rfl ?_
          refine J.mask [true, false, true, true, false, false] ?_
          exact ih S31 y32 (x3 + (1 : Int32)) H
theorem c_M_worst (w : Wd) (d : Nat) (c : cx)   (S : hs) (x1 : Int32)  {z : Int32 × hs} (H : f_M_worst S x1 = some z) : Cl w (d + 8) m_M_worst [.ref 191, .int x1] (mk c S) (some (.int z.1)) (mk c z.2) := by
  refine Cl.of (Nat.le_refl _) (Nat.le_refl _) (by decide +kernel) (Nat.le_of_ble_eq_true rfl) ?_
  unfold f_M_worst at H
  generalize hN (mk c S) = n0
  generalize hZ (mk c S) = z0
  show J w (d + 8) m_M_worst (n0, z0, some (.int z.1), mk c z.2) 0 [some (.ref 191), some (.int x1), none, none, none, none] [] (mk c S)
  refine J.run b_M_worst_0_1 k_M_worst_0_1 rfl (show J w (d + 8) m_M_worst (n0, z0, some (.int z.1), mk c z.2) 1 [some (.ref 191), some (.int x1), none, none, none, none] [.int x1] (mk c S) from ?_)
  obtain ⟨r1, S2, h3, H⟩ := bd_e H
  refine J.callS (y := m_M_isWidth) (av := [.int x1]) (rest := []) l_M_175 d_M_worst_1 (c_M_isWidth w (d + 5) c  S x1 h3) rfl (Nat.le_of_ble_eq_true rfl) ⟨Nat.le_refl _, Nat.le_refl _⟩ (show J w (d + 8) m_M_worst (n0, z0, some (.int z.1), mk c z.2) 4 [some (.ref 191), some (.int x1), none, none, none, none] [.int r1] (mk c S2) from ?_)
  refine J.zne (tgt := 9) d_M_worst_4 rfl (fun q4 => ?_) (fun q4 => ?_)
  · have H := ite_f H q4
    refine J.run b_M_worst_9_3 k_M_worst_9_3 rfl (show J w (d + 8) m_M_worst (n0, z0, some (.int z.1), mk c z.2) 12 [some (.ref 191), some (.int x1), none, none, none, none] [.int (0 : Int32), .int x1, .ref 191] (mk c S2) from ?_)
    obtain ⟨r5, S6, h7, H⟩ := bd_e H
    refine J.callV (y := m_M_findOnto) (av := [.int x1, .int (0 : Int32)]) (rest := []) (q := 191) l_M_280 d_M_worst_12 (isC_st rfl rfl) (c_M_findOnto w (d + 0) c  S2 x1 (0 : Int32) h7) rfl (Nat.le_of_ble_eq_true rfl) ⟨Nat.le_refl _, Nat.le_refl _⟩ (show J w (d + 8) m_M_worst (n0, z0, some (.int z.1), mk c z.2) 15 [some (.ref 191), some (.int x1), none, none, none, none] [] (mk c S6) from ?_)
    refine J.run b_M_worst_15_4 k_M_worst_15_4 rfl (show J w (d + 8) m_M_worst (n0, z0, some (.int z.1), mk c z.2) 19 [some (.ref 191), some (.int x1), some (.int (-1 : Int32)), some (.int (0 : Int32)), none, none] [] (mk c S6) from ?_)
    refine J.mask [true, false, true, true, false, false] ?_
    refine lo_M_worst_19 w d c  ?_ 1000 S6 (-1 : Int32) (0 : Int32) H
    · intro S34 y35 y36 H
      try dsimp only at H
      refine J.run b_M_worst_108_1 k_M_worst_108_1 rfl (show J w (d + 8) m_M_worst (n0, z0, some (.int z.1), mk c z.2) 109 [none, none, some (.int y35), none, none, none] [.int y35] (mk c S34) from ?_)
      refine J.zge (tgt := 117) d_M_worst_109 rfl (fun q37 => ?_) (fun q37 => ?_)
      · have H := ite_t H q37
        refine J.run b_M_worst_117_1 k_M_worst_117_1 rfl (show J w (d + 8) m_M_worst (n0, z0, some (.int z.1), mk c z.2) 118 [none, none, some (.int y35), none, none, none] [.int y35] (mk c S34) from ?_)
        obtain rfl := some_e H
        exact J.iret d_M_worst_118 rfl rfl
      · have H := ite_f H q37
        refine J.run b_M_worst_112_1 k_M_worst_112_1 rfl (show J w (d + 8) m_M_worst (n0, z0, some (.int z.1), mk c z.2) 114 [none, none, some (.int y35), none, none, none] [.int (-3 : Int32)] (mk c S34) from ?_)
        refine J.goto (tgt := 118) d_M_worst_114 rfl ?_
        obtain rfl := some_e H
        exact J.iret d_M_worst_118 rfl rfl
  · have H := ite_t H q4
    refine J.run b_M_worst_7_1 k_M_worst_7_1 rfl (show J w (d + 8) m_M_worst (n0, z0, some (.int z.1), mk c z.2) 8 [some (.ref 191), some (.int x1), none, none, none, none] [.int (-1 : Int32)] (mk c S2) from ?_)
    obtain rfl := some_e H
    exact J.iret d_M_worst_8 rfl rfl
def b_M_opened_0_1 : List Ins := [(.iload_n 1, 0, 0, 0)]
theorem k_M_opened_0_1 : bok m_M_opened 0 b_M_opened_0_1 = true := by decide +kernel
def b_M_opened_9_2 : List Ins := [(.aload_n 0, 0, 0, 0), (.iload_n 1, 0, 0, 0)]
theorem k_M_opened_9_2 : bok m_M_opened 9 b_M_opened_9_2 = true := by decide +kernel
def b_M_opened_14_5 : List Ins := [(.istore_n 2, 0, 0, 0), (.iconst (-1), 0, 0, 0), (.istore_n 3, 0, 0, 0), (.iconst (0), 0, 0, 0), (.istore 4, 0, 0, 0)]
theorem k_M_opened_14_5 : bok m_M_opened 14 b_M_opened_14_5 = true := by decide +kernel
def b_M_opened_20_5 : List Ins := [(.iload 4, 0, 0, 0), (.aload_n 0, 0, 0, 0), (.getfield 9, 11, 0, 2), (.iconst (2), 0, 0, 0), (.iaload, 0, 0, 0)]
theorem k_M_opened_20_5 : bok m_M_opened 20 b_M_opened_20_5 = true := by decide +kernel
def b_M_opened_31_13 : List Ins := [(.bipush (29), 0, 0, 0), (.iconst (5), 0, 0, 0), (.iload 4, 0, 0, 0), (.imul, 0, 0, 0), (.iadd, 0, 0, 0), (.iconst (4), 0, 0, 0), (.iadd, 0, 0, 0), (.istore 5, 0, 0, 0), (.aload_n 0, 0, 0, 0), (.getfield 9, 11, 0, 2), (.iload 5, 0, 0, 0), (.iaload, 0, 0, 0), (.iconst (1), 0, 0, 0)]
theorem k_M_opened_31_13 : bok m_M_opened 31 b_M_opened_31_13 = true := by decide +kernel
def b_M_opened_88_1 : List Ins := [(.iinc 4 (1), 0, 0, 0)]
theorem k_M_opened_88_1 : bok m_M_opened 88 b_M_opened_88_1 = true := by decide +kernel
def b_M_opened_53_7 : List Ins := [(.aload_n 0, 0, 0, 0), (.getfield 9, 11, 0, 2), (.iload 5, 0, 0, 0), (.iconst (0), 0, 0, 0), (.iastore, 0, 0, 0), (.aload_n 0, 0, 0, 0), (.iload_n 1, 0, 0, 0)]
theorem k_M_opened_53_7 : bok m_M_opened 53 b_M_opened_53_7 = true := by decide +kernel
def b_M_opened_66_8 : List Ins := [(.istore 6, 0, 0, 0), (.aload_n 0, 0, 0, 0), (.getfield 9, 11, 0, 2), (.iload 5, 0, 0, 0), (.iconst (1), 0, 0, 0), (.iastore, 0, 0, 0), (.iload 6, 0, 0, 0), (.iload_n 2, 0, 0, 0)]
theorem k_M_opened_66_8 : bok m_M_opened 66 b_M_opened_66_8 = true := by decide +kernel
def b_M_opened_82_5 : List Ins := [(.iload 6, 0, 0, 0), (.istore_n 2, 0, 0, 0), (.iload 4, 0, 0, 0), (.istore_n 3, 0, 0, 0), (.iinc 4 (1), 0, 0, 0)]
theorem k_M_opened_82_5 : bok m_M_opened 82 b_M_opened_82_5 = true := by decide +kernel
def b_M_opened_94_1 : List Ins := [(.iload_n 3, 0, 0, 0)]
theorem k_M_opened_94_1 : bok m_M_opened 94 b_M_opened_94_1 = true := by decide +kernel
def b_M_opened_103_1 : List Ins := [(.iload_n 3, 0, 0, 0)]
theorem k_M_opened_103_1 : bok m_M_opened 103 b_M_opened_103_1 = true := by decide +kernel
def b_M_opened_98_1 : List Ins := [(.bipush (-3), 0, 0, 0)]
theorem k_M_opened_98_1 : bok m_M_opened 98 b_M_opened_98_1 = true := by decide +kernel
def b_M_opened_7_1 : List Ins := [(.iconst (-1), 0, 0, 0)]
theorem k_M_opened_7_1 : bok m_M_opened 7 b_M_opened_7_1 = true := by decide +kernel
theorem d_M_opened_1 : decode m_M_opened.2.1 1 = .ok (.invokestatic 175, 3) := by decide +kernel
theorem d_M_opened_4 : decode m_M_opened.2.1 4 = .ok (.ifCond .ne (5), 3) := by decide +kernel
theorem d_M_opened_11 : decode m_M_opened.2.1 11 = .ok (.invokevirtual 309, 3) := by decide +kernel
theorem d_M_opened_28 : decode m_M_opened.2.1 28 = .ok (.if_icmp .ge (66), 3) := by decide +kernel
theorem d_M_opened_50 : decode m_M_opened.2.1 50 = .ok (.if_icmp .ne (38), 3) := by decide +kernel
theorem d_M_opened_91 : decode m_M_opened.2.1 91 = .ok (.goto (-71), 3) := by decide +kernel
theorem d_M_opened_63 : decode m_M_opened.2.1 63 = .ok (.invokevirtual 309, 3) := by decide +kernel
theorem d_M_opened_79 : decode m_M_opened.2.1 79 = .ok (.if_icmp .le (9), 3) := by decide +kernel
theorem d_M_opened_95 : decode m_M_opened.2.1 95 = .ok (.ifCond .ge (8), 3) := by decide +kernel
theorem d_M_opened_104 : decode m_M_opened.2.1 104 = .ok (.ireturn, 1) := by decide +kernel
theorem d_M_opened_100 : decode m_M_opened.2.1 100 = .ok (.goto (4), 3) := by decide +kernel
theorem d_M_opened_8 : decode m_M_opened.2.1 8 = .ok (.ireturn, 1) := by decide +kernel
def lp_M_opened_20 (x1 : Int32)  (K0 : hs → Int32 → Int32 → Int32 → Option (Int32 × hs)) : Nat → hs → Int32 → Int32 → Int32 → Option (Int32 × hs)
  | 0, _, _, _, _ => none
  | n + 1, S, x2, x3, x4 => (if (gI S 192 2) ≤ x4 then K0 S x2 x3 x4 else ck (inb (((29 : Int32) + ((5 : Int32) * x4)) + (4 : Int32)) 358) ((if (gI S 192 ((((29 : Int32) + ((5 : Int32) * x4)) + (4 : Int32))).toNatClampNeg) = (1 : Int32) then bd (f_M_pairsBy  (uI S 192 ((((29 : Int32) + ((5 : Int32) * x4)) + (4 : Int32))).toNatClampNeg (0 : Int32)) x1) fun r11 S12 => (if r11 ≤ x2 then lp_M_opened_20 x1 K0 n (uI S12 192 ((((29 : Int32) + ((5 : Int32) * x4)) + (4 : Int32))).toNatClampNeg (1 : Int32)) x2 x3 (x4 + (1 : Int32)) else lp_M_opened_20 x1 K0 n (uI S12 192 ((((29 : Int32) + ((5 : Int32) * x4)) + (4 : Int32))).toNatClampNeg (1 : Int32)) r11 x4 (x4 + (1 : Int32))) else lp_M_opened_20 x1 K0 n S x2 x3 (x4 + (1 : Int32)))))
def f_M_opened  (S : hs) (x1 : Int32) : Option (Int32 × hs) := bd (f_M_isWidth  S x1) fun r1 S2 => (if r1 = 0 then some ((-1 : Int32), S2) else bd (f_M_pairsBy  S2 x1) fun r5 S6 => lp_M_opened_20 x1 (fun (S15 : hs) (y16 : Int32) (y17 : Int32) (y18 : Int32) => (if 0 ≤ y17 then some (y17, S15) else some ((-3 : Int32), S15))) 1000 S6 r5 (-1 : Int32) (0 : Int32))
theorem lo_M_opened_20 (w : Wd) (d : Nat) (c : cx) {n0 z0 : Nat} {z : Int32 × hs}  {K0 : hs → Int32 → Int32 → Int32 → Option (Int32 × hs)} (x1 : Int32)   (hK0 : ∀ (S : hs) (x2 : Int32) (x3 : Int32) (x4 : Int32), K0 S x2 x3 x4 = some z → J w (d + 9) m_M_opened (n0, z0, some (.int z.1), mk c z.2) 94 [none, none, none, some (.int x3), none, none, none] [] (mk c S)) :
    ∀ (n : Nat) (S : hs) (x2 : Int32) (x3 : Int32) (x4 : Int32), lp_M_opened_20 x1 K0 n S x2 x3 x4 = some z → J w (d + 9) m_M_opened (n0, z0, some (.int z.1), mk c z.2) 20 [some (.ref 191), some (.int x1), some (.int x2), some (.int x3), some (.int x4), none, none] [] (mk c S) := by
  intro n
  induction n with
  | zero => intro S x2 x3 x4 H; cases H
  | succ n ih =>
    intro S x2 x3 x4 H
    rw [lp_M_opened_20] at H
    refine J.run b_M_opened_20_5 k_M_opened_20_5 rfl (And.intro (okO_st (S := S) rfl) (And.intro (okA_st (S := S) (n := 358) rfl rfl) (show J w (d + 9) m_M_opened (n0, z0, some (.int z.1), mk c z.2) 28 [some (.ref 191), some (.int x1), some (.int x2), some (.int x3), some (.int x4), none, none] [.int (gI S 192 2), .int x4] (mk c S) from ?_)))
    refine J.cge (tgt := 94) d_M_opened_28 rfl (fun q8 => ?_) (fun q8 => ?_)
    · have H := ite_t H q8
      refine J.mask [false, false, false, true, false, false, false] ?_
      exact hK0 S x2 x3 x4 H
    · have H := ite_f H q8
      obtain ⟨g9, H⟩ := ck_e H
      refine J.run b_M_opened_31_13 k_M_opened_31_13 rfl (And.intro (okO_st (S := S) rfl) (And.intro (okA_st (S := S) (n := 358) rfl g9) (show J w (d + 9) m_M_opened (n0, z0, some (.int z.1), mk c z.2) 50 [some (.ref 191), some (.int x1), some (.int x2), some (.int x3), some (.int x4), some (.int (((29 : Int32) + ((5 : Int32) * x4)) + (4 : Int32))), none] [.int (1 : Int32), .int (gI S 192 ((((29 : Int32) + ((5 : Int32) * x4)) + (4 : Int32))).toNatClampNeg)] (mk c S) from ?_)))
      refine J.cne (tgt := 88) d_M_opened_50 rfl (fun q10 => ?_) (fun q10 => ?_)
      · have H := ite_f H q10
        refine J.run b_M_opened_88_1 k_M_opened_88_1 rfl (show J w (d + 9) m_M_opened (n0, z0, some (.int z.1), mk c z.2) 91 [some (.ref 191), some (.int x1), some (.int x2), some (.int x3), some (.int (x4 + (1 : Int32))), some (.int (((29 : Int32) + ((5 : Int32) * x4)) + (4 : Int32))), none] [] (mk c S) from ?_)
        refine J.goto (tgt := 20) d_M_opened_91 rfl ?_
        refine J.mask [true, true, true, true, true, false, false] ?_
        exact ih S x2 x3 (x4 + (1 : Int32)) H
      · have H := ite_t H q10
        refine J.run b_M_opened_53_7 k_M_opened_53_7 rfl (And.intro (okO_st (S := S) rfl) (And.intro (okB_st (S := S) (n := 358) rfl g9) (show J w (d + 9) m_M_opened (n0, z0, some (.int z.1), mk c z.2) 63 [some (.ref 191), some (.int x1), some (.int x2), some (.int x3), some (.int x4), some (.int (((29 : Int32) + ((5 : Int32) * x4)) + (4 : Int32))), none] [.int x1, .ref 191] (mk c (uI S 192 ((((29 : Int32) + ((5 : Int32) * x4)) + (4 : Int32))).toNatClampNeg (0 : Int32))) from ?_)))
        obtain ⟨r11, S12, h13, H⟩ := bd_e H
        refine J.callV (y := m_M_pairsBy) (av := [.int x1]) (rest := []) (q := 191) l_M_309 d_M_opened_63 (isC_st rfl rfl) (c_M_pairsBy w (d + 0) c  (uI S 192 ((((29 : Int32) + ((5 : Int32) * x4)) + (4 : Int32))).toNatClampNeg (0 : Int32)) x1 h13) rfl (Nat.le_of_ble_eq_true rfl) ⟨Nat.le_refl _, Nat.le_refl _⟩ (show J w (d + 9) m_M_opened (n0, z0, some (.int z.1), mk c z.2) 66 [some (.ref 191), some (.int x1), some (.int x2), some (.int x3), some (.int x4), some (.int (((29 : Int32) + ((5 : Int32) * x4)) + (4 : Int32))), none] [.int r11] (mk c S12) from ?_)
        refine J.run b_M_opened_66_8 k_M_opened_66_8 rfl (And.intro (okO_st (S := S12) rfl) (And.intro (okB_st (S := S12) (n := 358) rfl g9) (show J w (d + 9) m_M_opened (n0, z0, some (.int z.1), mk c z.2) 79 [some (.ref 191), some (.int x1), some (.int x2), some (.int x3), some (.int x4), some (.int (((29 : Int32) + ((5 : Int32) * x4)) + (4 : Int32))), some (.int r11)] [.int x2, .int r11] (mk c (uI S12 192 ((((29 : Int32) + ((5 : Int32) * x4)) + (4 : Int32))).toNatClampNeg (1 : Int32))) from ?_)))
        refine J.cle (tgt := 88) d_M_opened_79 rfl (fun q14 => ?_) (fun q14 => ?_)
        · have H := ite_t H q14
          refine J.run b_M_opened_88_1 k_M_opened_88_1 rfl (show J w (d + 9) m_M_opened (n0, z0, some (.int z.1), mk c z.2) 91 [some (.ref 191), some (.int x1), some (.int x2), some (.int x3), some (.int (x4 + (1 : Int32))), some (.int (((29 : Int32) + ((5 : Int32) * x4)) + (4 : Int32))), some (.int r11)] [] (mk c (uI S12 192 ((((29 : Int32) + ((5 : Int32) * x4)) + (4 : Int32))).toNatClampNeg (1 : Int32))) from ?_)
          refine J.goto (tgt := 20) d_M_opened_91 rfl ?_
          refine J.mask [true, true, true, true, true, false, false] ?_
          exact ih (uI S12 192 ((((29 : Int32) + ((5 : Int32) * x4)) + (4 : Int32))).toNatClampNeg (1 : Int32)) x2 x3 (x4 + (1 : Int32)) H
        · have H := ite_f H q14
          refine J.run b_M_opened_82_5 k_M_opened_82_5 rfl (show J w (d + 9) m_M_opened (n0, z0, some (.int z.1), mk c z.2) 91 [some (.ref 191), some (.int x1), some (.int r11), some (.int x4), some (.int (x4 + (1 : Int32))), some (.int (((29 : Int32) + ((5 : Int32) * x4)) + (4 : Int32))), some (.int r11)] [] (mk c (uI S12 192 ((((29 : Int32) + ((5 : Int32) * x4)) + (4 : Int32))).toNatClampNeg (1 : Int32))) from ?_)
          refine J.goto (tgt := 20) d_M_opened_91 rfl ?_
          refine J.mask [true, true, true, true, true, false, false] ?_
          exact ih (uI S12 192 ((((29 : Int32) + ((5 : Int32) * x4)) + (4 : Int32))).toNatClampNeg (1 : Int32)) r11 x4 (x4 + (1 : Int32)) H
theorem c_M_opened (w : Wd) (d : Nat) (c : cx)   (S : hs) (x1 : Int32)  {z : Int32 × hs} (H : f_M_opened S x1 = some z) : Cl w (d + 9) m_M_opened [.ref 191, .int x1] (mk c S) (some (.int z.1)) (mk c z.2) := by
  refine Cl.of (Nat.le_refl _) (Nat.le_refl _) (by decide +kernel) (Nat.le_of_ble_eq_true rfl) ?_
  unfold f_M_opened at H
  generalize hN (mk c S) = n0
  generalize hZ (mk c S) = z0
  show J w (d + 9) m_M_opened (n0, z0, some (.int z.1), mk c z.2) 0 [some (.ref 191), some (.int x1), none, none, none, none, none] [] (mk c S)
  refine J.run b_M_opened_0_1 k_M_opened_0_1 rfl (show J w (d + 9) m_M_opened (n0, z0, some (.int z.1), mk c z.2) 1 [some (.ref 191), some (.int x1), none, none, none, none, none] [.int x1] (mk c S) from ?_)
  obtain ⟨r1, S2, h3, H⟩ := bd_e H
  refine J.callS (y := m_M_isWidth) (av := [.int x1]) (rest := []) l_M_175 d_M_opened_1 (c_M_isWidth w (d + 6) c  S x1 h3) rfl (Nat.le_of_ble_eq_true rfl) ⟨Nat.le_refl _, Nat.le_refl _⟩ (show J w (d + 9) m_M_opened (n0, z0, some (.int z.1), mk c z.2) 4 [some (.ref 191), some (.int x1), none, none, none, none, none] [.int r1] (mk c S2) from ?_)
  refine J.zne (tgt := 9) d_M_opened_4 rfl (fun q4 => ?_) (fun q4 => ?_)
  · have H := ite_f H q4
    refine J.run b_M_opened_9_2 k_M_opened_9_2 rfl (show J w (d + 9) m_M_opened (n0, z0, some (.int z.1), mk c z.2) 11 [some (.ref 191), some (.int x1), none, none, none, none, none] [.int x1, .ref 191] (mk c S2) from ?_)
    obtain ⟨r5, S6, h7, H⟩ := bd_e H
    refine J.callV (y := m_M_pairsBy) (av := [.int x1]) (rest := []) (q := 191) l_M_309 d_M_opened_11 (isC_st rfl rfl) (c_M_pairsBy w (d + 0) c  S2 x1 h7) rfl (Nat.le_of_ble_eq_true rfl) ⟨Nat.le_refl _, Nat.le_refl _⟩ (show J w (d + 9) m_M_opened (n0, z0, some (.int z.1), mk c z.2) 14 [some (.ref 191), some (.int x1), none, none, none, none, none] [.int r5] (mk c S6) from ?_)
    refine J.run b_M_opened_14_5 k_M_opened_14_5 rfl (show J w (d + 9) m_M_opened (n0, z0, some (.int z.1), mk c z.2) 20 [some (.ref 191), some (.int x1), some (.int r5), some (.int (-1 : Int32)), some (.int (0 : Int32)), none, none] [] (mk c S6) from ?_)
    refine J.mask [true, true, true, true, true, false, false] ?_
    refine lo_M_opened_20 w d c x1 ?_ 1000 S6 r5 (-1 : Int32) (0 : Int32) H
    · intro S15 y16 y17 y18 H
      try dsimp only at H
      refine J.run b_M_opened_94_1 k_M_opened_94_1 rfl (show J w (d + 9) m_M_opened (n0, z0, some (.int z.1), mk c z.2) 95 [none, none, none, some (.int y17), none, none, none] [.int y17] (mk c S15) from ?_)
      refine J.zge (tgt := 103) d_M_opened_95 rfl (fun q19 => ?_) (fun q19 => ?_)
      · have H := ite_t H q19
        refine J.run b_M_opened_103_1 k_M_opened_103_1 rfl (show J w (d + 9) m_M_opened (n0, z0, some (.int z.1), mk c z.2) 104 [none, none, none, some (.int y17), none, none, none] [.int y17] (mk c S15) from ?_)
        obtain rfl := some_e H
        exact J.iret d_M_opened_104 rfl rfl
      · have H := ite_f H q19
        refine J.run b_M_opened_98_1 k_M_opened_98_1 rfl (show J w (d + 9) m_M_opened (n0, z0, some (.int z.1), mk c z.2) 100 [none, none, none, some (.int y17), none, none, none] [.int (-3 : Int32)] (mk c S15) from ?_)
        refine J.goto (tgt := 104) d_M_opened_100 rfl ?_
        obtain rfl := some_e H
        exact J.iret d_M_opened_104 rfl rfl
  · have H := ite_t H q4
    refine J.run b_M_opened_7_1 k_M_opened_7_1 rfl (show J w (d + 9) m_M_opened (n0, z0, some (.int z.1), mk c z.2) 8 [some (.ref 191), some (.int x1), none, none, none, none, none] [.int (-1 : Int32)] (mk c S2) from ?_)
    obtain rfl := some_e H
    exact J.iret d_M_opened_8 rfl rfl
def b_M_farBy_0_4 : List Ins := [(.aload_n 0, 0, 0, 0), (.aload_n 0, 0, 0, 0), (.iload_n 1, 0, 0, 0), (.iconst (0), 0, 0, 0)]
theorem k_M_farBy_0_4 : bok m_M_farBy 0 b_M_farBy_0_4 = true := by decide +kernel
def b_M_farBy_7_1 : List Ins := [(.iload_n 2, 0, 0, 0)]
theorem k_M_farBy_7_1 : bok m_M_farBy 7 b_M_farBy_7_1 = true := by decide +kernel
theorem d_M_farBy_4 : decode m_M_farBy.2.1 4 = .ok (.invokevirtual 270, 3) := by decide +kernel
theorem d_M_farBy_8 : decode m_M_farBy.2.1 8 = .ok (.invokevirtual 284, 3) := by decide +kernel
theorem d_M_farBy_11 : decode m_M_farBy.2.1 11 = .ok (.ireturn, 1) := by decide +kernel
def f_M_farBy  (S : hs) (x1 : Int32) (x2 : Int32) : Option (Int32 × hs) := bd (f_M_walkerIs  S x1 (0 : Int32)) fun r1 S2 => bd (f_M_farOf  S2 r1 x2) fun r4 S5 => some (r4, S5)
theorem c_M_farBy (w : Wd) (d : Nat) (c : cx)   (S : hs) (x1 : Int32) (x2 : Int32)  {z : Int32 × hs} (H : f_M_farBy S x1 x2 = some z) : Cl w (d + 5) m_M_farBy [.ref 191, .int x1, .int x2] (mk c S) (some (.int z.1)) (mk c z.2) := by
  refine Cl.of (Nat.le_refl _) (Nat.le_refl _) (by decide +kernel) (Nat.le_of_ble_eq_true rfl) ?_
  unfold f_M_farBy at H
  generalize hN (mk c S) = n0
  generalize hZ (mk c S) = z0
  show J w (d + 5) m_M_farBy (n0, z0, some (.int z.1), mk c z.2) 0 [some (.ref 191), some (.int x1), some (.int x2)] [] (mk c S)
  refine J.run b_M_farBy_0_4 k_M_farBy_0_4 rfl (show J w (d + 5) m_M_farBy (n0, z0, some (.int z.1), mk c z.2) 4 [some (.ref 191), some (.int x1), some (.int x2)] [.int (0 : Int32), .int x1, .ref 191, .ref 191] (mk c S) from ?_)
  obtain ⟨r1, S2, h3, H⟩ := bd_e H
  refine J.callV (y := m_M_walkerIs) (av := [.int x1, .int (0 : Int32)]) (rest := [.ref 191]) (q := 191) l_M_270 d_M_farBy_4 (isC_st rfl rfl) (c_M_walkerIs w (d + 3) c  S x1 (0 : Int32) h3) rfl (Nat.le_of_ble_eq_true rfl) ⟨Nat.le_refl _, Nat.le_refl _⟩ (show J w (d + 5) m_M_farBy (n0, z0, some (.int z.1), mk c z.2) 7 [some (.ref 191), some (.int x1), some (.int x2)] [.int r1, .ref 191] (mk c S2) from ?_)
  refine J.run b_M_farBy_7_1 k_M_farBy_7_1 rfl (show J w (d + 5) m_M_farBy (n0, z0, some (.int z.1), mk c z.2) 8 [some (.ref 191), some (.int x1), some (.int x2)] [.int x2, .int r1, .ref 191] (mk c S2) from ?_)
  obtain ⟨r4, S5, h6, H⟩ := bd_e H
  refine J.callV (y := m_M_farOf) (av := [.int r1, .int x2]) (rest := []) (q := 191) l_M_284 d_M_farBy_8 (isC_st rfl rfl) (c_M_farOf w (d + 0) c  S2 r1 x2 h6) rfl (Nat.le_of_ble_eq_true rfl) ⟨Nat.le_refl _, Nat.le_refl _⟩ (show J w (d + 5) m_M_farBy (n0, z0, some (.int z.1), mk c z.2) 11 [some (.ref 191), some (.int x1), some (.int x2)] [.int r4] (mk c S5) from ?_)
  obtain rfl := some_e H
  exact J.iret d_M_farBy_11 rfl rfl
def b_M_meet_0_3 : List Ins := [(.aload_n 0, 0, 0, 0), (.iload_n 1, 0, 0, 0), (.iconst (3), 0, 0, 0)]
theorem k_M_meet_0_3 : bok m_M_meet 0 b_M_meet_0_3 = true := by decide +kernel
def b_M_meet_32_1 : List Ins := [(.iconst (-1), 0, 0, 0)]
theorem k_M_meet_32_1 : bok m_M_meet 32 b_M_meet_32_1 = true := by decide +kernel
def b_M_meet_9_3 : List Ins := [(.aload_n 0, 0, 0, 0), (.iload_n 2, 0, 0, 0), (.iconst (3), 0, 0, 0)]
theorem k_M_meet_9_3 : bok m_M_meet 9 b_M_meet_9_3 = true := by decide +kernel
def b_M_meet_18_2 : List Ins := [(.iload_n 1, 0, 0, 0), (.iload_n 2, 0, 0, 0)]
theorem k_M_meet_18_2 : bok m_M_meet 18 b_M_meet_18_2 = true := by decide +kernel
def b_M_meet_23_3 : List Ins := [(.iload_n 3, 0, 0, 0), (.iconst (0), 0, 0, 0), (.iconst (1), 0, 0, 0)]
theorem k_M_meet_23_3 : bok m_M_meet 23 b_M_meet_23_3 = true := by decide +kernel
def b_M_meet_34_4 : List Ins := [(.aload_n 0, 0, 0, 0), (.aload_n 0, 0, 0, 0), (.iload_n 1, 0, 0, 0), (.iconst (1), 0, 0, 0)]
theorem k_M_meet_34_4 : bok m_M_meet 34 b_M_meet_34_4 = true := by decide +kernel
def b_M_meet_41_1 : List Ins := [(.iconst (0), 0, 0, 0)]
theorem k_M_meet_41_1 : bok m_M_meet 41 b_M_meet_41_1 = true := by decide +kernel
def b_M_meet_45_2 : List Ins := [(.iconst (0), 0, 0, 0), (.istore 4, 0, 0, 0)]
theorem k_M_meet_45_2 : bok m_M_meet 45 b_M_meet_45_2 = true := by decide +kernel
def b_M_meet_48_5 : List Ins := [(.iload 4, 0, 0, 0), (.aload_n 0, 0, 0, 0), (.getfield 9, 11, 0, 2), (.iconst (1), 0, 0, 0), (.iaload, 0, 0, 0)]
theorem k_M_meet_48_5 : bok m_M_meet 48 b_M_meet_48_5 = true := by decide +kernel
def b_M_meet_59_6 : List Ins := [(.aload_n 0, 0, 0, 0), (.getfield 78, 11, 21, 2), (.iload 4, 0, 0, 0), (.aload_n 0, 0, 0, 0), (.iload_n 1, 0, 0, 0), (.iload 4, 0, 0, 0)]
theorem k_M_meet_59_6 : bok m_M_meet 59 b_M_meet_59_6 = true := by decide +kernel
def b_M_meet_72_2 : List Ins := [(.iastore, 0, 0, 0), (.iinc 4 (1), 0, 0, 0)]
theorem k_M_meet_72_2 : bok m_M_meet 72 b_M_meet_72_2 = true := by decide +kernel
def b_M_meet_79_4 : List Ins := [(.aload_n 0, 0, 0, 0), (.aload_n 0, 0, 0, 0), (.iload_n 2, 0, 0, 0), (.iconst (1), 0, 0, 0)]
theorem k_M_meet_79_4 : bok m_M_meet 79 b_M_meet_79_4 = true := by decide +kernel
def b_M_meet_86_1 : List Ins := [(.iconst (0), 0, 0, 0)]
theorem k_M_meet_86_1 : bok m_M_meet 86 b_M_meet_86_1 = true := by decide +kernel
def b_M_meet_90_6 : List Ins := [(.iconst (-1), 0, 0, 0), (.istore 4, 0, 0, 0), (.ldc_w 273, 0, 100000, 0), (.istore 5, 0, 0, 0), (.iconst (0), 0, 0, 0), (.istore 6, 0, 0, 0)]
theorem k_M_meet_90_6 : bok m_M_meet 90 b_M_meet_90_6 = true := by decide +kernel
def b_M_meet_101_5 : List Ins := [(.iload 6, 0, 0, 0), (.aload_n 0, 0, 0, 0), (.getfield 9, 11, 0, 2), (.iconst (1), 0, 0, 0), (.iaload, 0, 0, 0)]
theorem k_M_meet_101_5 : bok m_M_meet 101 b_M_meet_101_5 = true := by decide +kernel
def b_M_meet_112_7 : List Ins := [(.aload_n 0, 0, 0, 0), (.getfield 78, 11, 21, 2), (.iload 6, 0, 0, 0), (.iaload, 0, 0, 0), (.aload_n 0, 0, 0, 0), (.iload_n 2, 0, 0, 0), (.iload 6, 0, 0, 0)]
theorem k_M_meet_112_7 : bok m_M_meet 112 b_M_meet_112_7 = true := by decide +kernel
def b_M_meet_129_3 : List Ins := [(.istore 7, 0, 0, 0), (.iload 7, 0, 0, 0), (.iload 5, 0, 0, 0)]
theorem k_M_meet_129_3 : bok m_M_meet 129 b_M_meet_129_3 = true := by decide +kernel
def b_M_meet_146_1 : List Ins := [(.iinc 6 (1), 0, 0, 0)]
theorem k_M_meet_146_1 : bok m_M_meet 146 b_M_meet_146_1 = true := by decide +kernel
def b_M_meet_138_5 : List Ins := [(.iload 7, 0, 0, 0), (.istore 5, 0, 0, 0), (.iload 6, 0, 0, 0), (.istore 4, 0, 0, 0), (.iinc 6 (1), 0, 0, 0)]
theorem k_M_meet_138_5 : bok m_M_meet 138 b_M_meet_138_5 = true := by decide +kernel
def b_M_meet_152_1 : List Ins := [(.iload 4, 0, 0, 0)]
theorem k_M_meet_152_1 : bok m_M_meet 152 b_M_meet_152_1 = true := by decide +kernel
def b_M_meet_162_1 : List Ins := [(.iload_n 3, 0, 0, 0)]
theorem k_M_meet_162_1 : bok m_M_meet 162 b_M_meet_162_1 = true := by decide +kernel
def b_M_meet_171_1 : List Ins := [(.iload 5, 0, 0, 0)]
theorem k_M_meet_171_1 : bok m_M_meet 171 b_M_meet_171_1 = true := by decide +kernel
def b_M_meet_166_1 : List Ins := [(.iload 4, 0, 0, 0)]
theorem k_M_meet_166_1 : bok m_M_meet 166 b_M_meet_166_1 = true := by decide +kernel
def b_M_meet_157_1 : List Ins := [(.bipush (-3), 0, 0, 0)]
theorem k_M_meet_157_1 : bok m_M_meet 157 b_M_meet_157_1 = true := by decide +kernel
theorem d_M_meet_3 : decode m_M_meet.2.1 3 = .ok (.invokevirtual 120, 3) := by decide +kernel
theorem d_M_meet_6 : decode m_M_meet.2.1 6 = .ok (.ifCond .eq (26), 3) := by decide +kernel
theorem d_M_meet_33 : decode m_M_meet.2.1 33 = .ok (.ireturn, 1) := by decide +kernel
theorem d_M_meet_12 : decode m_M_meet.2.1 12 = .ok (.invokevirtual 120, 3) := by decide +kernel
theorem d_M_meet_15 : decode m_M_meet.2.1 15 = .ok (.ifCond .eq (17), 3) := by decide +kernel
theorem d_M_meet_20 : decode m_M_meet.2.1 20 = .ok (.if_icmp .eq (12), 3) := by decide +kernel
theorem d_M_meet_26 : decode m_M_meet.2.1 26 = .ok (.invokestatic 105, 3) := by decide +kernel
theorem d_M_meet_29 : decode m_M_meet.2.1 29 = .ok (.ifCond .ne (5), 3) := by decide +kernel
theorem d_M_meet_38 : decode m_M_meet.2.1 38 = .ok (.invokevirtual 270, 3) := by decide +kernel
theorem d_M_meet_42 : decode m_M_meet.2.1 42 = .ok (.invokevirtual 280, 3) := by decide +kernel
theorem d_M_meet_56 : decode m_M_meet.2.1 56 = .ok (.if_icmp .ge (23), 3) := by decide +kernel
theorem d_M_meet_69 : decode m_M_meet.2.1 69 = .ok (.invokevirtual 312, 3) := by decide +kernel
theorem d_M_meet_76 : decode m_M_meet.2.1 76 = .ok (.goto (-28), 3) := by decide +kernel
theorem d_M_meet_83 : decode m_M_meet.2.1 83 = .ok (.invokevirtual 270, 3) := by decide +kernel
theorem d_M_meet_87 : decode m_M_meet.2.1 87 = .ok (.invokevirtual 280, 3) := by decide +kernel
theorem d_M_meet_109 : decode m_M_meet.2.1 109 = .ok (.if_icmp .ge (43), 3) := by decide +kernel
theorem d_M_meet_123 : decode m_M_meet.2.1 123 = .ok (.invokevirtual 312, 3) := by decide +kernel
theorem d_M_meet_126 : decode m_M_meet.2.1 126 = .ok (.invokestatic 258, 3) := by decide +kernel
theorem d_M_meet_135 : decode m_M_meet.2.1 135 = .ok (.if_icmp .ge (11), 3) := by decide +kernel
theorem d_M_meet_149 : decode m_M_meet.2.1 149 = .ok (.goto (-48), 3) := by decide +kernel
theorem d_M_meet_154 : decode m_M_meet.2.1 154 = .ok (.ifCond .ge (8), 3) := by decide +kernel
theorem d_M_meet_163 : decode m_M_meet.2.1 163 = .ok (.ifCond .ne (8), 3) := by decide +kernel
theorem d_M_meet_173 : decode m_M_meet.2.1 173 = .ok (.ireturn, 1) := by decide +kernel
theorem d_M_meet_168 : decode m_M_meet.2.1 168 = .ok (.goto (5), 3) := by decide +kernel
theorem d_M_meet_159 : decode m_M_meet.2.1 159 = .ok (.goto (14), 3) := by decide +kernel
def lp_M_meet_48 (x1 : Int32) (x2 : Int32) (x3 : Int32)  (K0 : hs → Int32 → Option (Int32 × hs)) : Nat → hs → Int32 → Option (Int32 × hs)
  | 0, _, _ => none
  | n + 1, S, x4 => (if (gI S 192 1) ≤ x4 then K0 S x4 else bd (f_M_farBy  S x1 x4) fun r21 S22 => ck (inb x4 12) (lp_M_meet_48 x1 x2 x3 K0 n (uI S22 204 (x4).toNatClampNeg r21) (x4 + (1 : Int32))))
def lp_M_meet_101 (x2 : Int32) (x3 : Int32)  (K0 : hs → Int32 → Int32 → Int32 → Option (Int32 × hs)) : Nat → hs → Int32 → Int32 → Int32 → Option (Int32 × hs)
  | 0, _, _, _, _ => none
  | n + 1, S, x4, x5, x6 => (if (gI S 192 1) ≤ x6 then K0 S x4 x5 x6 else ck (inb x6 12) (bd (f_M_farBy  S x2 x6) fun r35 S36 => bd (f_Ma_max  S36 (gI S 204 (x6).toNatClampNeg) r35) fun r38 S39 => (if x5 ≤ r38 then lp_M_meet_101 x2 x3 K0 n S39 x4 x5 (x6 + (1 : Int32)) else lp_M_meet_101 x2 x3 K0 n S39 x6 r38 (x6 + (1 : Int32)))))
def f_M_meet  (S : hs) (x1 : Int32) (x2 : Int32) (x3 : Int32) : Option (Int32 × hs) := bd (f_M_is  S x1 (3 : Int32)) fun r1 S2 => (if r1 = 0 then some ((-1 : Int32), S2) else bd (f_M_is  S2 x2 (3 : Int32)) fun r5 S6 => (if r5 = 0 then some ((-1 : Int32), S6) else (if x1 = x2 then some ((-1 : Int32), S6) else bd (f_M_in  S6 x3 (0 : Int32) (1 : Int32)) fun r10 S11 => (if r10 = 0 then some ((-1 : Int32), S11) else bd (f_M_walkerIs  S11 x1 (1 : Int32)) fun r14 S15 => bd (f_M_findOnto  S15 r14 (0 : Int32)) fun r17 S18 => lp_M_meet_48 x1 x2 x3 (fun (S25 : hs) (y26 : Int32) => bd (f_M_walkerIs  S25 x2 (1 : Int32)) fun r27 S28 => bd (f_M_findOnto  S28 r27 (0 : Int32)) fun r30 S31 => lp_M_meet_101 x2 x3 (fun (S42 : hs) (y43 : Int32) (y44 : Int32) (y45 : Int32) => (if 0 ≤ y43 then (if x3 = 0 then some (y43, S42) else some (y44, S42)) else some ((-3 : Int32), S42))) 1000 S31 (-1 : Int32) (100000 : Int32) (0 : Int32)) 1000 S18 (0 : Int32)))))
theorem lo_M_meet_48 (w : Wd) (d : Nat) (c : cx) {n0 z0 : Nat} {z : Int32 × hs}  {K0 : hs → Int32 → Option (Int32 × hs)} (x1 : Int32) (x2 : Int32) (x3 : Int32)   (hK0 : ∀ (S : hs) (x4 : Int32), K0 S x4 = some z → J w (d + 8) m_M_meet (n0, z0, some (.int z.1), mk c z.2) 79 [some (.ref 191), none, some (.int x2), some (.int x3), none, none, none, none] [] (mk c S)) :
    ∀ (n : Nat) (S : hs) (x4 : Int32), lp_M_meet_48 x1 x2 x3 K0 n S x4 = some z → J w (d + 8) m_M_meet (n0, z0, some (.int z.1), mk c z.2) 48 [some (.ref 191), some (.int x1), some (.int x2), some (.int x3), some (.int x4), none, none, none] [] (mk c S) := by
  intro n
  induction n with
  | zero => intro S x4 H; cases H
  | succ n ih =>
    intro S x4 H
    rw [lp_M_meet_48] at H
    refine J.run b_M_meet_48_5 k_M_meet_48_5 rfl (And.intro (okO_st (S := S) rfl) (And.intro (okA_st (S := S) (n := 358) rfl rfl) (show J w (d + 8) m_M_meet (n0, z0, some (.int z.1), mk c z.2) 56 [some (.ref 191), some (.int x1), some (.int x2), some (.int x3), some (.int x4), none, none, none] [.int (gI S 192 1), .int x4] (mk c S) from ?_)))
    refine J.cge (tgt := 79) d_M_meet_56 rfl (fun q20 => ?_) (fun q20 => ?_)
    · have H := ite_t H q20
      refine J.mask [true, false, true, true, false, false, false, false] ?_
      exact hK0 S x4 H
    · have H := ite_f H q20
      refine J.run b_M_meet_59_6 k_M_meet_59_6 rfl (And.intro (okO_st (S := S) rfl) (show J w (d + 8) m_M_meet (n0, z0, some (.int z.1), mk c z.2) 69 [some (.ref 191), some (.int x1), some (.int x2), some (.int x3), some (.int x4), none, none, none] [.int x4, .int x1, .ref 191, .int x4, .ref 204] (mk c S) from ?_))
      obtain ⟨r21, S22, h23, H⟩ := bd_e H
      refine J.callV (y := m_M_farBy) (av := [.int x1, .int x4]) (rest := [.int x4, .ref 204]) (q := 191) l_M_312 d_M_meet_69 (isC_st rfl rfl) (c_M_farBy w (d + 2) c  S x1 x4 h23) rfl (Nat.le_of_ble_eq_true rfl) ⟨Nat.le_refl _, Nat.le_refl _⟩ (show J w (d + 8) m_M_meet (n0, z0, some (.int z.1), mk c z.2) 72 [some (.ref 191), some (.int x1), some (.int x2), some (.int x3), some (.int x4), none, none, none] [.int r21, .int x4, .ref 204] (mk c S22) from ?_)
      obtain ⟨g24, H⟩ := ck_e H
      refine J.run b_M_meet_72_2 k_M_meet_72_2 rfl (And.intro (okB_st (S := S22) (n := 12) rfl g24) (show J w (d + 8) m_M_meet (n0, z0, some (.int z.1), mk c z.2) 76 [some (.ref 191), some (.int x1), some (.int x2), some (.int x3), some (.int (x4 + (1 : Int32))), none, none, none] [] (mk c (uI S22 204 (x4).toNatClampNeg r21)) from ?_))
      refine J.goto (tgt := 48) d_M_meet_76 rfl ?_
      refine J.mask [true, true, true, true, true, false, false, false] ?_
      exact ih (uI S22 204 (x4).toNatClampNeg r21) (x4 + (1 : Int32)) H
theorem lo_M_meet_101 (w : Wd) (d : Nat) (c : cx) {n0 z0 : Nat} {z : Int32 × hs}  {K0 : hs → Int32 → Int32 → Int32 → Option (Int32 × hs)} (x2 : Int32) (x3 : Int32)   (hK0 : ∀ (S : hs) (x4 : Int32) (x5 : Int32) (x6 : Int32), K0 S x4 x5 x6 = some z → J w (d + 8) m_M_meet (n0, z0, some (.int z.1), mk c z.2) 152 [none, none, none, some (.int x3), some (.int x4), some (.int x5), none, none] [] (mk c S)) :
    ∀ (n : Nat) (S : hs) (x4 : Int32) (x5 : Int32) (x6 : Int32), lp_M_meet_101 x2 x3 K0 n S x4 x5 x6 = some z → J w (d + 8) m_M_meet (n0, z0, some (.int z.1), mk c z.2) 101 [some (.ref 191), none, some (.int x2), some (.int x3), some (.int x4), some (.int x5), some (.int x6), none] [] (mk c S) := by
  intro n
  induction n with
  | zero => intro S x4 x5 x6 H; cases H
  | succ n ih =>
    intro S x4 x5 x6 H
    rw [lp_M_meet_101] at H
    refine J.run b_M_meet_101_5 k_M_meet_101_5 rfl (And.intro (okO_st (S := S) rfl) (And.intro (okA_st (S := S) (n := 358) rfl rfl) (show J w (d + 8) m_M_meet (n0, z0, some (.int z.1), mk c z.2) 109 [some (.ref 191), none, some (.int x2), some (.int x3), some (.int x4), some (.int x5), some (.int x6), none] [.int (gI S 192 1), .int x6] (mk c S) from ?_)))
    refine J.cge (tgt := 152) d_M_meet_109 rfl (fun q33 => ?_) (fun q33 => ?_)
    · have H := ite_t H q33
      refine J.mask [false, false, false, true, true, true, false, false] ?_
      exact hK0 S x4 x5 x6 H
    · have H := ite_f H q33
      obtain ⟨g34, H⟩ := ck_e H
      refine J.run b_M_meet_112_7 k_M_meet_112_7 rfl (And.intro (okO_st (S := S) rfl) (And.intro (okA_st (S := S) (n := 12) rfl g34) (show J w (d + 8) m_M_meet (n0, z0, some (.int z.1), mk c z.2) 123 [some (.ref 191), none, some (.int x2), some (.int x3), some (.int x4), some (.int x5), some (.int x6), none] [.int x6, .int x2, .ref 191, .int (gI S 204 (x6).toNatClampNeg)] (mk c S) from ?_)))
      obtain ⟨r35, S36, h37, H⟩ := bd_e H
      refine J.callV (y := m_M_farBy) (av := [.int x2, .int x6]) (rest := [.int (gI S 204 (x6).toNatClampNeg)]) (q := 191) l_M_312 d_M_meet_123 (isC_st rfl rfl) (c_M_farBy w (d + 2) c  S x2 x6 h37) rfl (Nat.le_of_ble_eq_true rfl) ⟨Nat.le_refl _, Nat.le_refl _⟩ (show J w (d + 8) m_M_meet (n0, z0, some (.int z.1), mk c z.2) 126 [some (.ref 191), none, some (.int x2), some (.int x3), some (.int x4), some (.int x5), some (.int x6), none] [.int r35, .int (gI S 204 (x6).toNatClampNeg)] (mk c S36) from ?_)
      obtain ⟨r38, S39, h40, H⟩ := bd_e H
      refine J.callS (y := m_Ma_max) (av := [.int (gI S 204 (x6).toNatClampNeg), .int r35]) (rest := []) l_M_258 d_M_meet_126 (c_Ma_max w (d + 6) c  S36 (gI S 204 (x6).toNatClampNeg) r35 h40) rfl (Nat.le_of_ble_eq_true rfl) ⟨Nat.le_refl _, Nat.le_refl _⟩ (show J w (d + 8) m_M_meet (n0, z0, some (.int z.1), mk c z.2) 129 [some (.ref 191), none, some (.int x2), some (.int x3), some (.int x4), some (.int x5), some (.int x6), none] [.int r38] (mk c S39) from ?_)
      refine J.run b_M_meet_129_3 k_M_meet_129_3 rfl (show J w (d + 8) m_M_meet (n0, z0, some (.int z.1), mk c z.2) 135 [some (.ref 191), none, some (.int x2), some (.int x3), some (.int x4), some (.int x5), some (.int x6), some (.int r38)] [.int x5, .int r38] (mk c S39) from ?_)
      refine J.cge (tgt := 146) d_M_meet_135 rfl (fun q41 => ?_) (fun q41 => ?_)
      · have H := ite_t H q41
        refine J.run b_M_meet_146_1 k_M_meet_146_1 rfl (show J w (d + 8) m_M_meet (n0, z0, some (.int z.1), mk c z.2) 149 [some (.ref 191), none, some (.int x2), some (.int x3), some (.int x4), some (.int x5), some (.int (x6 + (1 : Int32))), some (.int r38)] [] (mk c S39) from ?_)
        refine J.goto (tgt := 101) d_M_meet_149 rfl ?_
        refine J.mask [true, false, true, true, true, true, true, false] ?_
        exact ih S39 x4 x5 (x6 + (1 : Int32)) H
      · have H := ite_f H q41
        refine J.run b_M_meet_138_5 k_M_meet_138_5 rfl (show J w (d + 8) m_M_meet (n0, z0, some (.int z.1), mk c z.2) 149 [some (.ref 191), none, some (.int x2), some (.int x3), some (.int x6), some (.int r38), some (.int (x6 + (1 : Int32))), some (.int r38)] [] (mk c S39) from ?_)
        refine J.goto (tgt := 101) d_M_meet_149 rfl ?_
        refine J.mask [true, false, true, true, true, true, true, false] ?_
        exact ih S39 x6 r38 (x6 + (1 : Int32)) H
theorem c_M_meet (w : Wd) (d : Nat) (c : cx)   (S : hs) (x1 : Int32) (x2 : Int32) (x3 : Int32)  {z : Int32 × hs} (H : f_M_meet S x1 x2 x3 = some z) : Cl w (d + 8) m_M_meet [.ref 191, .int x1, .int x2, .int x3] (mk c S) (some (.int z.1)) (mk c z.2) := by
  refine Cl.of (Nat.le_refl _) (Nat.le_refl _) (by decide +kernel) (Nat.le_of_ble_eq_true rfl) ?_
  unfold f_M_meet at H
  generalize hN (mk c S) = n0
  generalize hZ (mk c S) = z0
  show J w (d + 8) m_M_meet (n0, z0, some (.int z.1), mk c z.2) 0 [some (.ref 191), some (.int x1), some (.int x2), some (.int x3), none, none, none, none] [] (mk c S)
  refine J.run b_M_meet_0_3 k_M_meet_0_3 rfl (show J w (d + 8) m_M_meet (n0, z0, some (.int z.1), mk c z.2) 3 [some (.ref 191), some (.int x1), some (.int x2), some (.int x3), none, none, none, none] [.int (3 : Int32), .int x1, .ref 191] (mk c S) from ?_)
  obtain ⟨r1, S2, h3, H⟩ := bd_e H
  refine J.callV (y := m_M_is) (av := [.int x1, .int (3 : Int32)]) (rest := []) (q := 191) l_M_120 d_M_meet_3 (isC_st rfl rfl) (c_M_is w (d + 5) c  S x1 (3 : Int32) h3) rfl (Nat.le_of_ble_eq_true rfl) ⟨Nat.le_refl _, Nat.le_refl _⟩ (show J w (d + 8) m_M_meet (n0, z0, some (.int z.1), mk c z.2) 6 [some (.ref 191), some (.int x1), some (.int x2), some (.int x3), none, none, none, none] [.int r1] (mk c S2) from ?_)
  refine J.zeq (tgt := 32) d_M_meet_6 rfl (fun q4 => ?_) (fun q4 => ?_)
  · have H := ite_t H q4
    refine J.run b_M_meet_32_1 k_M_meet_32_1 rfl (show J w (d + 8) m_M_meet (n0, z0, some (.int z.1), mk c z.2) 33 [some (.ref 191), some (.int x1), some (.int x2), some (.int x3), none, none, none, none] [.int (-1 : Int32)] (mk c S2) from ?_)
    obtain rfl := some_e H
    exact J.iret d_M_meet_33 rfl rfl
  · have H := ite_f H q4
    refine J.run b_M_meet_9_3 k_M_meet_9_3 rfl (show J w (d + 8) m_M_meet (n0, z0, some (.int z.1), mk c z.2) 12 [some (.ref 191), some (.int x1), some (.int x2), some (.int x3), none, none, none, none] [.int (3 : Int32), .int x2, .ref 191] (mk c S2) from ?_)
    obtain ⟨r5, S6, h7, H⟩ := bd_e H
    refine J.callV (y := m_M_is) (av := [.int x2, .int (3 : Int32)]) (rest := []) (q := 191) l_M_120 d_M_meet_12 (isC_st rfl rfl) (c_M_is w (d + 5) c  S2 x2 (3 : Int32) h7) rfl (Nat.le_of_ble_eq_true rfl) ⟨Nat.le_refl _, Nat.le_refl _⟩ (show J w (d + 8) m_M_meet (n0, z0, some (.int z.1), mk c z.2) 15 [some (.ref 191), some (.int x1), some (.int x2), some (.int x3), none, none, none, none] [.int r5] (mk c S6) from ?_)
    refine J.zeq (tgt := 32) d_M_meet_15 rfl (fun q8 => ?_) (fun q8 => ?_)
    · have H := ite_t H q8
      refine J.run b_M_meet_32_1 k_M_meet_32_1 rfl (show J w (d + 8) m_M_meet (n0, z0, some (.int z.1), mk c z.2) 33 [some (.ref 191), some (.int x1), some (.int x2), some (.int x3), none, none, none, none] [.int (-1 : Int32)] (mk c S6) from ?_)
      obtain rfl := some_e H
      exact J.iret d_M_meet_33 rfl rfl
    · have H := ite_f H q8
      refine J.run b_M_meet_18_2 k_M_meet_18_2 rfl (show J w (d + 8) m_M_meet (n0, z0, some (.int z.1), mk c z.2) 20 [some (.ref 191), some (.int x1), some (.int x2), some (.int x3), none, none, none, none] [.int x2, .int x1] (mk c S6) from ?_)
      refine J.ceq (tgt := 32) d_M_meet_20 rfl (fun q9 => ?_) (fun q9 => ?_)
      · have H := ite_t H q9
        refine J.run b_M_meet_32_1 k_M_meet_32_1 rfl (show J w (d + 8) m_M_meet (n0, z0, some (.int z.1), mk c z.2) 33 [some (.ref 191), some (.int x1), some (.int x2), some (.int x3), none, none, none, none] [.int (-1 : Int32)] (mk c S6) from ?_)
        obtain rfl := some_e H
        exact J.iret d_M_meet_33 rfl rfl
      · have H := ite_f H q9
        refine J.run b_M_meet_23_3 k_M_meet_23_3 rfl (show J w (d + 8) m_M_meet (n0, z0, some (.int z.1), mk c z.2) 26 [some (.ref 191), some (.int x1), some (.int x2), some (.int x3), none, none, none, none] [.int (1 : Int32), .int (0 : Int32), .int x3] (mk c S6) from ?_)
        obtain ⟨r10, S11, h12, H⟩ := bd_e H
        refine J.callS (y := m_M_in) (av := [.int x3, .int (0 : Int32), .int (1 : Int32)]) (rest := []) l_M_105 d_M_meet_26 (c_M_in w (d + 6) c  S6 x3 (0 : Int32) (1 : Int32) h12) rfl (Nat.le_of_ble_eq_true rfl) ⟨Nat.le_refl _, Nat.le_refl _⟩ (show J w (d + 8) m_M_meet (n0, z0, some (.int z.1), mk c z.2) 29 [some (.ref 191), some (.int x1), some (.int x2), some (.int x3), none, none, none, none] [.int r10] (mk c S11) from ?_)
        refine J.zne (tgt := 34) d_M_meet_29 rfl (fun q13 => ?_) (fun q13 => ?_)
        · have H := ite_f H q13
          refine J.run b_M_meet_34_4 k_M_meet_34_4 rfl (show J w (d + 8) m_M_meet (n0, z0, some (.int z.1), mk c z.2) 38 [some (.ref 191), some (.int x1), some (.int x2), some (.int x3), none, none, none, none] [.int (1 : Int32), .int x1, .ref 191, .ref 191] (mk c S11) from ?_)
          obtain ⟨r14, S15, h16, H⟩ := bd_e H
          refine J.callV (y := m_M_walkerIs) (av := [.int x1, .int (1 : Int32)]) (rest := [.ref 191]) (q := 191) l_M_270 d_M_meet_38 (isC_st rfl rfl) (c_M_walkerIs w (d + 6) c  S11 x1 (1 : Int32) h16) rfl (Nat.le_of_ble_eq_true rfl) ⟨Nat.le_refl _, Nat.le_refl _⟩ (show J w (d + 8) m_M_meet (n0, z0, some (.int z.1), mk c z.2) 41 [some (.ref 191), some (.int x1), some (.int x2), some (.int x3), none, none, none, none] [.int r14, .ref 191] (mk c S15) from ?_)
          refine J.run b_M_meet_41_1 k_M_meet_41_1 rfl (show J w (d + 8) m_M_meet (n0, z0, some (.int z.1), mk c z.2) 42 [some (.ref 191), some (.int x1), some (.int x2), some (.int x3), none, none, none, none] [.int (0 : Int32), .int r14, .ref 191] (mk c S15) from ?_)
          obtain ⟨r17, S18, h19, H⟩ := bd_e H
          refine J.callV (y := m_M_findOnto) (av := [.int r14, .int (0 : Int32)]) (rest := []) (q := 191) l_M_280 d_M_meet_42 (isC_st rfl rfl) (c_M_findOnto w (d + 0) c  S15 r14 (0 : Int32) h19) rfl (Nat.le_of_ble_eq_true rfl) ⟨Nat.le_refl _, Nat.le_refl _⟩ (show J w (d + 8) m_M_meet (n0, z0, some (.int z.1), mk c z.2) 45 [some (.ref 191), some (.int x1), some (.int x2), some (.int x3), none, none, none, none] [] (mk c S18) from ?_)
          refine J.run b_M_meet_45_2 k_M_meet_45_2 rfl (show J w (d + 8) m_M_meet (n0, z0, some (.int z.1), mk c z.2) 48 [some (.ref 191), some (.int x1), some (.int x2), some (.int x3), some (.int (0 : Int32)), none, none, none] [] (mk c S18) from ?_)
          refine J.mask [true, true, true, true, true, false, false, false] ?_
          refine lo_M_meet_48 w d c x1 x2 x3 ?_ 1000 S18 (0 : Int32) H
          · intro S25 y26 H
            try dsimp only at H
            refine J.run b_M_meet_79_4 k_M_meet_79_4 rfl (show J w (d + 8) m_M_meet (n0, z0, some (.int z.1), mk c z.2) 83 [some (.ref 191), none, some (.int x2), some (.int x3), none, none, none, none] [.int (1 : Int32), .int x2, .ref 191, .ref 191] (mk c S25) from ?_)
            obtain ⟨r27, S28, h29, H⟩ := bd_e H
            refine J.callV (y := m_M_walkerIs) (av := [.int x2, .int (1 : Int32)]) (rest := [.ref 191]) (q := 191) l_M_270 d_M_meet_83 (isC_st rfl rfl) (c_M_walkerIs w (d + 6) c  S25 x2 (1 : Int32) h29) rfl (Nat.le_of_ble_eq_true rfl) ⟨Nat.le_refl _, Nat.le_refl _⟩ (show J w (d + 8) m_M_meet (n0, z0, some (.int z.1), mk c z.2) 86 [some (.ref 191), none, some (.int x2), some (.int x3), none, none, none, none] [.int r27, .ref 191] (mk c S28) from ?_)
            refine J.run b_M_meet_86_1 k_M_meet_86_1 rfl (show J w (d + 8) m_M_meet (n0, z0, some (.int z.1), mk c z.2) 87 [some (.ref 191), none, some (.int x2), some (.int x3), none, none, none, none] [.int (0 : Int32), .int r27, .ref 191] (mk c S28) from ?_)
            obtain ⟨r30, S31, h32, H⟩ := bd_e H
            refine J.callV (y := m_M_findOnto) (av := [.int r27, .int (0 : Int32)]) (rest := []) (q := 191) l_M_280 d_M_meet_87 (isC_st rfl rfl) (c_M_findOnto w (d + 0) c  S28 r27 (0 : Int32) h32) rfl (Nat.le_of_ble_eq_true rfl) ⟨Nat.le_refl _, Nat.le_refl _⟩ (show J w (d + 8) m_M_meet (n0, z0, some (.int z.1), mk c z.2) 90 [some (.ref 191), none, some (.int x2), some (.int x3), none, none, none, none] [] (mk c S31) from ?_)
            refine J.run b_M_meet_90_6 k_M_meet_90_6 rfl (show J w (d + 8) m_M_meet (n0, z0, some (.int z.1), mk c z.2) 101 [some (.ref 191), none, some (.int x2), some (.int x3), some (.int (-1 : Int32)), some (.int (100000 : Int32)), some (.int (0 : Int32)), none] [] (mk c S31) from ?_)
            refine J.mask [true, false, true, true, true, true, true, false] ?_
            refine lo_M_meet_101 w d c x2 x3 ?_ 1000 S31 (-1 : Int32) (100000 : Int32) (0 : Int32) H
            · intro S42 y43 y44 y45 H
              try dsimp only at H
              refine J.run b_M_meet_152_1 k_M_meet_152_1 rfl (show J w (d + 8) m_M_meet (n0, z0, some (.int z.1), mk c z.2) 154 [none, none, none, some (.int x3), some (.int y43), some (.int y44), none, none] [.int y43] (mk c S42) from ?_)
              refine J.zge (tgt := 162) d_M_meet_154 rfl (fun q46 => ?_) (fun q46 => ?_)
              · have H := ite_t H q46
                refine J.run b_M_meet_162_1 k_M_meet_162_1 rfl (show J w (d + 8) m_M_meet (n0, z0, some (.int z.1), mk c z.2) 163 [none, none, none, some (.int x3), some (.int y43), some (.int y44), none, none] [.int x3] (mk c S42) from ?_)
                refine J.zne (tgt := 171) d_M_meet_163 rfl (fun q47 => ?_) (fun q47 => ?_)
                · have H := ite_f H q47
                  refine J.run b_M_meet_171_1 k_M_meet_171_1 rfl (show J w (d + 8) m_M_meet (n0, z0, some (.int z.1), mk c z.2) 173 [none, none, none, some (.int x3), some (.int y43), some (.int y44), none, none] [.int y44] (mk c S42) from ?_)
                  obtain rfl := some_e H
                  exact J.iret d_M_meet_173 rfl rfl
                · have H := ite_t H q47
                  refine J.run b_M_meet_166_1 k_M_meet_166_1 rfl (show J w (d + 8) m_M_meet (n0, z0, some (.int z.1), mk c z.2) 168 [none, none, none, some (.int x3), some (.int y43), some (.int y44), none, none] [.int y43] (mk c S42) from ?_)
                  refine J.goto (tgt := 173) d_M_meet_168 rfl ?_
                  obtain rfl := some_e H
                  exact J.iret d_M_meet_173 rfl rfl
              · have H := ite_f H q46
                refine J.run b_M_meet_157_1 k_M_meet_157_1 rfl (show J w (d + 8) m_M_meet (n0, z0, some (.int z.1), mk c z.2) 159 [none, none, none, some (.int x3), some (.int y43), some (.int y44), none, none] [.int (-3 : Int32)] (mk c S42) from ?_)
                refine J.goto (tgt := 173) d_M_meet_159 rfl ?_
                obtain rfl := some_e H
                exact J.iret d_M_meet_173 rfl rfl
        · have H := ite_t H q13
          refine J.run b_M_meet_32_1 k_M_meet_32_1 rfl (show J w (d + 8) m_M_meet (n0, z0, some (.int z.1), mk c z.2) 33 [some (.ref 191), some (.int x1), some (.int x2), some (.int x3), none, none, none, none] [.int (-1 : Int32)] (mk c S11) from ?_)
          obtain rfl := some_e H
          exact J.iret d_M_meet_33 rfl rfl
def b_M_other_0_3 : List Ins := [(.iload_n 1, 0, 0, 0), (.iconst (0), 0, 0, 0), (.bipush (15), 0, 0, 0)]
theorem k_M_other_0_3 : bok m_M_other 0 b_M_other_0_3 = true := by decide +kernel
def b_M_other_12_33 : List Ins := [(.aload_n 0, 0, 0, 0), (.iload_n 1, 0, 0, 0), (.iconst (1), 0, 0, 0), (.iand, 0, 0, 0), (.iconst (1), 0, 0, 0), (.ishl, 0, 0, 0), (.iload_n 1, 0, 0, 0), (.iconst (1), 0, 0, 0), (.ishr, 0, 0, 0), (.iconst (1), 0, 0, 0), (.iand, 0, 0, 0), (.bipush (12), 0, 0, 0), (.imul, 0, 0, 0), (.ior, 0, 0, 0), (.iload_n 1, 0, 0, 0), (.iconst (2), 0, 0, 0), (.ishr, 0, 0, 0), (.iconst (1), 0, 0, 0), (.iand, 0, 0, 0), (.iconst (4), 0, 0, 0), (.ishl, 0, 0, 0), (.ior, 0, 0, 0), (.iload_n 1, 0, 0, 0), (.iconst (3), 0, 0, 0), (.ishr, 0, 0, 0), (.iconst (1), 0, 0, 0), (.iand, 0, 0, 0), (.iconst (5), 0, 0, 0), (.ishl, 0, 0, 0), (.ior, 0, 0, 0), (.putfield 16, 11, 3, 0), (.aload_n 0, 0, 0, 0), (.iconst (0), 0, 0, 0)]
theorem k_M_other_12_33 : bok m_M_other 12 b_M_other_12_33 = true := by decide +kernel
def b_M_other_51_5 : List Ins := [(.istore_n 2, 0, 0, 0), (.aload_n 0, 0, 0, 0), (.iconst (-1), 0, 0, 0), (.putfield 16, 11, 3, 0), (.iload_n 2, 0, 0, 0)]
theorem k_M_other_51_5 : bok m_M_other 51 b_M_other_51_5 = true := by decide +kernel
def b_M_other_10_1 : List Ins := [(.iconst (-1), 0, 0, 0)]
theorem k_M_other_10_1 : bok m_M_other 10 b_M_other_10_1 = true := by decide +kernel
theorem d_M_other_4 : decode m_M_other.2.1 4 = .ok (.invokestatic 105, 3) := by decide +kernel
theorem d_M_other_7 : decode m_M_other.2.1 7 = .ok (.ifCond .ne (5), 3) := by decide +kernel
theorem d_M_other_48 : decode m_M_other.2.1 48 = .ok (.invokevirtual 309, 3) := by decide +kernel
theorem d_M_other_58 : decode m_M_other.2.1 58 = .ok (.ireturn, 1) := by decide +kernel
theorem d_M_other_11 : decode m_M_other.2.1 11 = .ok (.ireturn, 1) := by decide +kernel
def f_M_other  (S : hs) (x1 : Int32) : Option (Int32 × hs) := bd (f_M_in  S x1 (0 : Int32) (15 : Int32)) fun r1 S2 => (if r1 = 0 then some ((-1 : Int32), S2) else bd (f_M_pairsBy  (uI S2 191 3 (((((x1 &&& (1 : Int32)) <<< ((1 : Int32) &&& 31)) ||| (((x1 >>> ((1 : Int32) &&& 31)) &&& (1 : Int32)) * (12 : Int32))) ||| (((x1 >>> ((2 : Int32) &&& 31)) &&& (1 : Int32)) <<< ((4 : Int32) &&& 31))) ||| (((x1 >>> ((3 : Int32) &&& 31)) &&& (1 : Int32)) <<< ((5 : Int32) &&& 31)))) (0 : Int32)) fun r5 S6 => some (r5, (uI S6 191 3 (-1 : Int32))))
theorem c_M_other (w : Wd) (d : Nat) (c : cx)   (S : hs) (x1 : Int32)  {z : Int32 × hs} (H : f_M_other S x1 = some z) : Cl w (d + 9) m_M_other [.ref 191, .int x1] (mk c S) (some (.int z.1)) (mk c z.2) := by
  refine Cl.of (Nat.le_refl _) (Nat.le_refl _) (by decide +kernel) (Nat.le_of_ble_eq_true rfl) ?_
  unfold f_M_other at H
  generalize hN (mk c S) = n0
  generalize hZ (mk c S) = z0
  show J w (d + 9) m_M_other (n0, z0, some (.int z.1), mk c z.2) 0 [some (.ref 191), some (.int x1), none] [] (mk c S)
  refine J.run b_M_other_0_3 k_M_other_0_3 rfl (show J w (d + 9) m_M_other (n0, z0, some (.int z.1), mk c z.2) 4 [some (.ref 191), some (.int x1), none] [.int (15 : Int32), .int (0 : Int32), .int x1] (mk c S) from ?_)
  obtain ⟨r1, S2, h3, H⟩ := bd_e H
  refine J.callS (y := m_M_in) (av := [.int x1, .int (0 : Int32), .int (15 : Int32)]) (rest := []) l_M_105 d_M_other_4 (c_M_in w (d + 7) c  S x1 (0 : Int32) (15 : Int32) h3) rfl (Nat.le_of_ble_eq_true rfl) ⟨Nat.le_refl _, Nat.le_refl _⟩ (show J w (d + 9) m_M_other (n0, z0, some (.int z.1), mk c z.2) 7 [some (.ref 191), some (.int x1), none] [.int r1] (mk c S2) from ?_)
  refine J.zne (tgt := 12) d_M_other_7 rfl (fun q4 => ?_) (fun q4 => ?_)
  · have H := ite_f H q4
    refine J.run b_M_other_12_33 k_M_other_12_33 rfl (And.intro (okO_st (S := S2) rfl) (show J w (d + 9) m_M_other (n0, z0, some (.int z.1), mk c z.2) 48 [some (.ref 191), some (.int x1), none] [.int (0 : Int32), .ref 191] (mk c (uI S2 191 3 (((((x1 &&& (1 : Int32)) <<< ((1 : Int32) &&& 31)) ||| (((x1 >>> ((1 : Int32) &&& 31)) &&& (1 : Int32)) * (12 : Int32))) ||| (((x1 >>> ((2 : Int32) &&& 31)) &&& (1 : Int32)) <<< ((4 : Int32) &&& 31))) ||| (((x1 >>> ((3 : Int32) &&& 31)) &&& (1 : Int32)) <<< ((5 : Int32) &&& 31))))) from ?_))
    obtain ⟨r5, S6, h7, H⟩ := bd_e H
    refine J.callV (y := m_M_pairsBy) (av := [.int (0 : Int32)]) (rest := []) (q := 191) l_M_309 d_M_other_48 (isC_st rfl rfl) (c_M_pairsBy w (d + 0) c  (uI S2 191 3 (((((x1 &&& (1 : Int32)) <<< ((1 : Int32) &&& 31)) ||| (((x1 >>> ((1 : Int32) &&& 31)) &&& (1 : Int32)) * (12 : Int32))) ||| (((x1 >>> ((2 : Int32) &&& 31)) &&& (1 : Int32)) <<< ((4 : Int32) &&& 31))) ||| (((x1 >>> ((3 : Int32) &&& 31)) &&& (1 : Int32)) <<< ((5 : Int32) &&& 31)))) (0 : Int32) h7) rfl (Nat.le_of_ble_eq_true rfl) ⟨Nat.le_refl _, Nat.le_refl _⟩ (show J w (d + 9) m_M_other (n0, z0, some (.int z.1), mk c z.2) 51 [some (.ref 191), some (.int x1), none] [.int r5] (mk c S6) from ?_)
    refine J.run b_M_other_51_5 k_M_other_51_5 rfl (And.intro (okO_st (S := S6) rfl) (show J w (d + 9) m_M_other (n0, z0, some (.int z.1), mk c z.2) 58 [some (.ref 191), some (.int x1), some (.int r5)] [.int r5] (mk c (uI S6 191 3 (-1 : Int32))) from ?_))
    obtain rfl := some_e H
    exact J.iret d_M_other_58 rfl rfl
  · have H := ite_t H q4
    refine J.run b_M_other_10_1 k_M_other_10_1 rfl (show J w (d + 9) m_M_other (n0, z0, some (.int z.1), mk c z.2) 11 [some (.ref 191), some (.int x1), none] [.int (-1 : Int32)] (mk c S2) from ?_)
    obtain rfl := some_e H
    exact J.iret d_M_other_11 rfl rfl
