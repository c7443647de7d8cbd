/-! Model -/
def b_M_in_0_2 : List Ins := [(.iload_n 0, 0, 0, 0), (.iload_n 1, 0, 0, 0)]
theorem k_M_in_0_2 : bok m_M_in 0 b_M_in_0_2 = true := by decide +kernel
def b_M_in_14_1 : List Ins := [(.iconst (0), 0, 0, 0)]
theorem k_M_in_14_1 : bok m_M_in 14 b_M_in_14_1 = true := by decide +kernel
def b_M_in_5_2 : List Ins := [(.iload_n 0, 0, 0, 0), (.iload_n 2, 0, 0, 0)]
theorem k_M_in_5_2 : bok m_M_in 5 b_M_in_5_2 = true := by decide +kernel
def b_M_in_10_1 : List Ins := [(.iconst (1), 0, 0, 0)]
theorem k_M_in_10_1 : bok m_M_in 10 b_M_in_10_1 = true := by decide +kernel
theorem d_M_in_2 : decode m_M_in.2.1 2 = .ok (.if_icmp .lt (12), 3) := by decide +kernel
theorem d_M_in_15 : decode m_M_in.2.1 15 = .ok (.ireturn, 1) := by decide +kernel
theorem d_M_in_7 : decode m_M_in.2.1 7 = .ok (.if_icmp .gt (7), 3) := by decide +kernel
theorem d_M_in_11 : decode m_M_in.2.1 11 = .ok (.goto (4), 3) := by decide +kernel
def f_M_in  (S : hs) (x0 : Int32) (x1 : Int32) (x2 : Int32) : Option (Int32 × hs) := (if x0 < x1 then some ((0 : Int32), S) else (if x2 < x0 then some ((0 : Int32), S) else some ((1 : Int32), S)))
theorem c_M_in (w : Wd) (d : Nat) (c : cx)   (S : hs) (x0 : Int32) (x1 : Int32) (x2 : Int32)  {z : Int32 × hs} (H : f_M_in S x0 x1 x2 = some z) : Cl w (d + 1) m_M_in [.int x0, .int x1, .int x2] (mk c S) (some (.int z.1)) (mk c z.2) := by
  refine Cl.of (Nat.le_refl _) (Nat.le_refl _) (by decide +kernel) (Nat.le_of_ble_eq_true rfl) ?_
  unfold f_M_in at H
  generalize hN (mk c S) = n0
  generalize hZ (mk c S) = z0
  show J w (d + 1) m_M_in (n0, z0, some (.int z.1), mk c z.2) 0 [some (.int x0), some (.int x1), some (.int x2)] [] (mk c S)
  refine J.run b_M_in_0_2 k_M_in_0_2 rfl (show J w (d + 1) m_M_in (n0, z0, some (.int z.1), mk c z.2) 2 [some (.int x0), some (.int x1), some (.int x2)] [.int x1, .int x0] (mk c S) from ?_)
  refine J.clt (tgt := 14) d_M_in_2 rfl (fun q1 => ?_) (fun q1 => ?_)
  · have H := ite_t H q1
    refine J.run b_M_in_14_1 k_M_in_14_1 rfl (show J w (d + 1) m_M_in (n0, z0, some (.int z.1), mk c z.2) 15 [some (.int x0), some (.int x1), some (.int x2)] [.int (0 : Int32)] (mk c S) from ?_)
    obtain rfl := some_e H
    exact J.nret d_M_in_15 rfl rfl rfl
  · have H := ite_f H q1
    refine J.run b_M_in_5_2 k_M_in_5_2 rfl (show J w (d + 1) m_M_in (n0, z0, some (.int z.1), mk c z.2) 7 [some (.int x0), some (.int x1), some (.int x2)] [.int x2, .int x0] (mk c S) from ?_)
    refine J.cgt (tgt := 14) d_M_in_7 rfl (fun q2 => ?_) (fun q2 => ?_)
    · have H := ite_t H q2
      refine J.run b_M_in_14_1 k_M_in_14_1 rfl (show J w (d + 1) m_M_in (n0, z0, some (.int z.1), mk c z.2) 15 [some (.int x0), some (.int x1), some (.int x2)] [.int (0 : Int32)] (mk c S) from ?_)
      obtain rfl := some_e H
      exact J.nret d_M_in_15 rfl rfl rfl
    · have H := ite_f H q2
      refine J.run b_M_in_10_1 k_M_in_10_1 rfl (show J w (d + 1) m_M_in (n0, z0, some (.int z.1), mk c z.2) 11 [some (.int x0), some (.int x1), some (.int x2)] [.int (1 : Int32)] (mk c S) from ?_)
      refine J.goto (tgt := 15) d_M_in_11 rfl ?_
      obtain rfl := some_e H
      exact J.nret d_M_in_15 rfl rfl rfl
def b_M_xOf_0_8 : List Ins := [(.aload_n 0, 0, 0, 0), (.getfield 9, 11, 0, 2), (.iconst (5), 0, 0, 0), (.iconst (2), 0, 0, 0), (.iload_n 1, 0, 0, 0), (.imul, 0, 0, 0), (.iadd, 0, 0, 0), (.iaload, 0, 0, 0)]
theorem k_M_xOf_0_8 : bok m_M_xOf 0 b_M_xOf_0_8 = true := by decide +kernel
theorem d_M_xOf_10 : decode m_M_xOf.2.1 10 = .ok (.ireturn, 1) := by decide +kernel
def f_M_xOf  (S : hs) (x1 : Int32) : Option (Int32 × hs) := ck (inb ((5 : Int32) + ((2 : Int32) * x1)) 358) (some ((gI S 192 (((5 : Int32) + ((2 : Int32) * x1))).toNatClampNeg), S))
theorem c_M_xOf (w : Wd) (d : Nat) (c : cx)   (S : hs) (x1 : Int32)  {z : Int32 × hs} (H : f_M_xOf S x1 = some z) : Cl w (d + 1) m_M_xOf [.ref 191, .int x1] (mk c S) (some (.int z.1)) (mk c z.2) := by
  refine Cl.of (Nat.le_refl _) (Nat.le_refl _) (by decide +kernel) (Nat.le_of_ble_eq_true rfl) ?_
  unfold f_M_xOf at H
  generalize hN (mk c S) = n0
  generalize hZ (mk c S) = z0
  show J w (d + 1) m_M_xOf (n0, z0, some (.int z.1), mk c z.2) 0 [some (.ref 191), some (.int x1)] [] (mk c S)
  obtain ⟨g1, H⟩ := ck_e H
  refine J.run b_M_xOf_0_8 k_M_xOf_0_8 rfl (And.intro (okO_st (S := S) rfl) (And.intro (okA_st (S := S) (n := 358) rfl g1) (show J w (d + 1) m_M_xOf (n0, z0, some (.int z.1), mk c z.2) 10 [some (.ref 191), some (.int x1)] [.int (gI S 192 (((5 : Int32) + ((2 : Int32) * x1))).toNatClampNeg)] (mk c S) from ?_)))
  obtain rfl := some_e H
  exact J.iret d_M_xOf_10 rfl rfl
def b_M_yOf_0_10 : List Ins := [(.aload_n 0, 0, 0, 0), (.getfield 9, 11, 0, 2), (.iconst (5), 0, 0, 0), (.iconst (2), 0, 0, 0), (.iload_n 1, 0, 0, 0), (.imul, 0, 0, 0), (.iadd, 0, 0, 0), (.iconst (1), 0, 0, 0), (.iadd, 0, 0, 0), (.iaload, 0, 0, 0)]
theorem k_M_yOf_0_10 : bok m_M_yOf 0 b_M_yOf_0_10 = true := by decide +kernel
theorem d_M_yOf_12 : decode m_M_yOf.2.1 12 = .ok (.ireturn, 1) := by decide +kernel
def f_M_yOf  (S : hs) (x1 : Int32) : Option (Int32 × hs) := ck (inb (((5 : Int32) + ((2 : Int32) * x1)) + (1 : Int32)) 358) (some ((gI S 192 ((((5 : Int32) + ((2 : Int32) * x1)) + (1 : Int32))).toNatClampNeg), S))
theorem c_M_yOf (w : Wd) (d : Nat) (c : cx)   (S : hs) (x1 : Int32)  {z : Int32 × hs} (H : f_M_yOf S x1 = some z) : Cl w (d + 1) m_M_yOf [.ref 191, .int x1] (mk c S) (some (.int z.1)) (mk c z.2) := by
  refine Cl.of (Nat.le_refl _) (Nat.le_refl _) (by decide +kernel) (Nat.le_of_ble_eq_true rfl) ?_
  unfold f_M_yOf at H
  generalize hN (mk c S) = n0
  generalize hZ (mk c S) = z0
  show J w (d + 1) m_M_yOf (n0, z0, some (.int z.1), mk c z.2) 0 [some (.ref 191), some (.int x1)] [] (mk c S)
  obtain ⟨g1, H⟩ := ck_e H
  refine J.run b_M_yOf_0_10 k_M_yOf_0_10 rfl (And.intro (okO_st (S := S) rfl) (And.intro (okA_st (S := S) (n := 358) rfl g1) (show J w (d + 1) m_M_yOf (n0, z0, some (.int z.1), mk c z.2) 12 [some (.ref 191), some (.int x1)] [.int (gI S 192 ((((5 : Int32) + ((2 : Int32) * x1)) + (1 : Int32))).toNatClampNeg)] (mk c S) from ?_)))
  obtain rfl := some_e H
  exact J.iret d_M_yOf_12 rfl rfl
def b_M_isThere_0_4 : List Ins := [(.iconst (0), 0, 0, 0), (.istore_n 3, 0, 0, 0), (.iconst (0), 0, 0, 0), (.istore 4, 0, 0, 0)]
theorem k_M_isThere_0_4 : bok m_M_isThere 0 b_M_isThere_0_4 = true := by decide +kernel
def b_M_isThere_5_5 : List Ins := [(.iload 4, 0, 0, 0), (.aload_n 0, 0, 0, 0), (.getfield 9, 11, 0, 2), (.iconst (1), 0, 0, 0), (.iaload, 0, 0, 0)]
theorem k_M_isThere_5_5 : bok m_M_isThere 5 b_M_isThere_5_5 = true := by decide +kernel
def b_M_isThere_52_1 : List Ins := [(.iload_n 3, 0, 0, 0)]
theorem k_M_isThere_52_1 : bok m_M_isThere 52 b_M_isThere_52_1 = true := by decide +kernel
def b_M_isThere_16_1 : List Ins := [(.iload_n 3, 0, 0, 0)]
theorem k_M_isThere_16_1 : bok m_M_isThere 16 b_M_isThere_16_1 = true := by decide +kernel
def b_M_isThere_40_1 : List Ins := [(.iconst (1), 0, 0, 0)]
theorem k_M_isThere_40_1 : bok m_M_isThere 40 b_M_isThere_40_1 = true := by decide +kernel
def b_M_isThere_45_2 : List Ins := [(.istore_n 3, 0, 0, 0), (.iinc 4 (1), 0, 0, 0)]
theorem k_M_isThere_45_2 : bok m_M_isThere 45 b_M_isThere_45_2 = true := by decide +kernel
def b_M_isThere_20_2 : List Ins := [(.aload_n 0, 0, 0, 0), (.iload 4, 0, 0, 0)]
theorem k_M_isThere_20_2 : bok m_M_isThere 20 b_M_isThere_20_2 = true := by decide +kernel
def b_M_isThere_26_1 : List Ins := [(.iload_n 1, 0, 0, 0)]
theorem k_M_isThere_26_1 : bok m_M_isThere 26 b_M_isThere_26_1 = true := by decide +kernel
def b_M_isThere_44_3 : List Ins := [(.iconst (0), 0, 0, 0), (.istore_n 3, 0, 0, 0), (.iinc 4 (1), 0, 0, 0)]
theorem k_M_isThere_44_3 : bok m_M_isThere 44 b_M_isThere_44_3 = true := by decide +kernel
def b_M_isThere_30_2 : List Ins := [(.aload_n 0, 0, 0, 0), (.iload 4, 0, 0, 0)]
theorem k_M_isThere_30_2 : bok m_M_isThere 30 b_M_isThere_30_2 = true := by decide +kernel
def b_M_isThere_36_1 : List Ins := [(.iload_n 2, 0, 0, 0)]
theorem k_M_isThere_36_1 : bok m_M_isThere 36 b_M_isThere_36_1 = true := by decide +kernel
theorem d_M_isThere_13 : decode m_M_isThere.2.1 13 = .ok (.if_icmp .ge (39), 3) := by decide +kernel
theorem d_M_isThere_53 : decode m_M_isThere.2.1 53 = .ok (.ireturn, 1) := by decide +kernel
theorem d_M_isThere_17 : decode m_M_isThere.2.1 17 = .ok (.ifCond .ne (23), 3) := by decide +kernel
theorem d_M_isThere_41 : decode m_M_isThere.2.1 41 = .ok (.goto (4), 3) := by decide +kernel
theorem d_M_isThere_49 : decode m_M_isThere.2.1 49 = .ok (.goto (-44), 3) := by decide +kernel
theorem d_M_isThere_23 : decode m_M_isThere.2.1 23 = .ok (.invokevirtual 109, 3) := by decide +kernel
theorem d_M_isThere_27 : decode m_M_isThere.2.1 27 = .ok (.if_icmp .ne (17), 3) := by decide +kernel
theorem d_M_isThere_33 : decode m_M_isThere.2.1 33 = .ok (.invokevirtual 113, 3) := by decide +kernel
theorem d_M_isThere_37 : decode m_M_isThere.2.1 37 = .ok (.if_icmp .ne (7), 3) := by decide +kernel
def lp_M_isThere_5 (x1 : Int32) (x2 : Int32)   : Nat → hs → Int32 → Int32 → Option (Int32 × hs)
  | 0, _, _, _ => none
  | n + 1, S, x3, x4 => (if (gI S 192 1) ≤ x4 then ck (isB x3) (some (x3, S)) else (if x3 = 0 then bd (f_M_xOf  S x4) fun r4 S5 => (if r4 = x1 then bd (f_M_yOf  S5 x4) fun r8 S9 => (if r8 = x2 then lp_M_isThere_5 x1 x2 n S9 (1 : Int32) (x4 + (1 : Int32)) else lp_M_isThere_5 x1 x2 n S9 (0 : Int32) (x4 + (1 : Int32))) else lp_M_isThere_5 x1 x2 n S5 (0 : Int32) (x4 + (1 : Int32))) else lp_M_isThere_5 x1 x2 n S (1 : Int32) (x4 + (1 : Int32))))
def f_M_isThere  (S : hs) (x1 : Int32) (x2 : Int32) : Option (Int32 × hs) := lp_M_isThere_5 x1 x2 1000 S (0 : Int32) (0 : Int32)
theorem lo_M_isThere_5 (w : Wd) (d : Nat) (c : cx) {n0 z0 : Nat} {z : Int32 × hs}   (x1 : Int32) (x2 : Int32)    :
    ∀ (n : Nat) (S : hs) (x3 : Int32) (x4 : Int32), lp_M_isThere_5 x1 x2 n S x3 x4 = some z → J w (d + 2) m_M_isThere (n0, z0, some (.int z.1), mk c z.2) 5 [some (.ref 191), some (.int x1), some (.int x2), some (.int x3), some (.int x4)] [] (mk c S) := by
  intro n
  induction n with
  | zero => intro S x3 x4 H; cases H
  | succ n ih =>
    intro S x3 x4 H
    rw [lp_M_isThere_5] at H
    refine J.run b_M_isThere_5_5 k_M_isThere_5_5 rfl (And.intro (okO_st (S := S) rfl) (And.intro (okA_st (S := S) (n := 358) rfl rfl) (show J w (d + 2) m_M_isThere (n0, z0, some (.int z.1), mk c z.2) 13 [some (.ref 191), some (.int x1), some (.int x2), some (.int x3), some (.int x4)] [.int (gI S 192 1), .int x4] (mk c S) from ?_)))
    refine J.cge (tgt := 52) d_M_isThere_13 rfl (fun q1 => ?_) (fun q1 => ?_)
    · have H := ite_t H q1
      refine J.run b_M_isThere_52_1 k_M_isThere_52_1 rfl (show J w (d + 2) m_M_isThere (n0, z0, some (.int z.1), mk c z.2) 53 [some (.ref 191), some (.int x1), some (.int x2), some (.int x3), some (.int x4)] [.int x3] (mk c S) from ?_)
      obtain ⟨g2, H⟩ := ck_e H
      obtain rfl := some_e H
      exact J.nret d_M_isThere_53 rfl (isB_n g2) rfl
    · have H := ite_f H q1
      refine J.run b_M_isThere_16_1 k_M_isThere_16_1 rfl (show J w (d + 2) m_M_isThere (n0, z0, some (.int z.1), mk c z.2) 17 [some (.ref 191), some (.int x1), some (.int x2), some (.int x3), some (.int x4)] [.int x3] (mk c S) from ?_)
      refine J.zne (tgt := 40) d_M_isThere_17 rfl (fun q3 => ?_) (fun q3 => ?_)
      · have H := ite_f H q3
        refine J.run b_M_isThere_40_1 k_M_isThere_40_1 rfl (show J w (d + 2) m_M_isThere (n0, z0, some (.int z.1), mk c z.2) 41 [some (.ref 191), some (.int x1), some (.int x2), some (.int x3), some (.int x4)] [.int (1 : Int32)] (mk c S) from ?_)
        refine J.goto (tgt := 45) d_M_isThere_41 rfl ?_
        refine J.run b_M_isThere_45_2 k_M_isThere_45_2 rfl (show J w (d + 2) m_M_isThere (n0, z0, some (.int z.1), mk c z.2) 49 [some (.ref 191), some (.int x1), some (.int x2), some (.int (1 : Int32)), some (.int (x4 + (1 : Int32)))] [] (mk c S) from ?_)
        refine J.goto (tgt := 5) d_M_isThere_49 rfl ?_
        refine J.mask [true, true, true, true, true] ?_
        exact ih S (1 : Int32) (x4 + (1 : Int32)) H
      · have H := ite_t H q3
        refine J.run b_M_isThere_20_2 k_M_isThere_20_2 rfl (show J w (d + 2) m_M_isThere (n0, z0, some (.int z.1), mk c z.2) 23 [some (.ref 191), some (.int x1), some (.int x2), some (.int x3), some (.int x4)] [.int x4, .ref 191] (mk c S) from ?_)
        obtain ⟨r4, S5, h6, H⟩ := bd_e H
        refine J.callV (y := m_M_xOf) (av := [.int x4]) (rest := []) (q := 191) l_M_109 d_M_isThere_23 (isC_st rfl rfl) (c_M_xOf w (d + 0) c  S x4 h6) rfl (Nat.le_of_ble_eq_true rfl) ⟨Nat.le_refl _, Nat.le_refl _⟩ (show J w (d + 2) m_M_isThere (n0, z0, some (.int z.1), mk c z.2) 26 [some (.ref 191), some (.int x1), some (.int x2), some (.int x3), some (.int x4)] [.int r4] (mk c S5) from ?_)
        refine J.run b_M_isThere_26_1 k_M_isThere_26_1 rfl (show J w (d + 2) m_M_isThere (n0, z0, some (.int z.1), mk c z.2) 27 [some (.ref 191), some (.int x1), some (.int x2), some (.int x3), some (.int x4)] [.int x1, .int r4] (mk c S5) from ?_)
        refine J.cne (tgt := 44) d_M_isThere_27 rfl (fun q7 => ?_) (fun q7 => ?_)
        · have H := ite_f H q7
          refine J.run b_M_isThere_44_3 k_M_isThere_44_3 rfl (show J w (d + 2) m_M_isThere (n0, z0, some (.int z.1), mk c z.2) 49 [some (.ref 191), some (.int x1), some (.int x2), some (.int (0 : Int32)), some (.int (x4 + (1 : Int32)))] [] (mk c S5) from ?_)
          refine J.goto (tgt := 5) d_M_isThere_49 rfl ?_
          refine J.mask [true, true, true, true, true] ?_
          exact ih S5 (0 : Int32) (x4 + (1 : Int32)) H
        · have H := ite_t H q7
          refine J.run b_M_isThere_30_2 k_M_isThere_30_2 rfl (show J w (d + 2) m_M_isThere (n0, z0, some (.int z.1), mk c z.2) 33 [some (.ref 191), some (.int x1), some (.int x2), some (.int x3), some (.int x4)] [.int x4, .ref 191] (mk c S5) from ?_)
          obtain ⟨r8, S9, h10, H⟩ := bd_e H
          refine J.callV (y := m_M_yOf) (av := [.int x4]) (rest := []) (q := 191) l_M_113 d_M_isThere_33 (isC_st rfl rfl) (c_M_yOf w (d + 0) c  S5 x4 h10) rfl (Nat.le_of_ble_eq_true rfl) ⟨Nat.le_refl _, Nat.le_refl _⟩ (show J w (d + 2) m_M_isThere (n0, z0, some (.int z.1), mk c z.2) 36 [some (.ref 191), some (.int x1), some (.int x2), some (.int x3), some (.int x4)] [.int r8] (mk c S9) from ?_)
          refine J.run b_M_isThere_36_1 k_M_isThere_36_1 rfl (show J w (d + 2) m_M_isThere (n0, z0, some (.int z.1), mk c z.2) 37 [some (.ref 191), some (.int x1), some (.int x2), some (.int x3), some (.int x4)] [.int x2, .int r8] (mk c S9) from ?_)
          refine J.cne (tgt := 44) d_M_isThere_37 rfl (fun q11 => ?_) (fun q11 => ?_)
          · have H := ite_f H q11
            refine J.run b_M_isThere_44_3 k_M_isThere_44_3 rfl (show J w (d + 2) m_M_isThere (n0, z0, some (.int z.1), mk c z.2) 49 [some (.ref 191), some (.int x1), some (.int x2), some (.int (0 : Int32)), some (.int (x4 + (1 : Int32)))] [] (mk c S9) from ?_)
            refine J.goto (tgt := 5) d_M_isThere_49 rfl ?_
            refine J.mask [true, true, true, true, true] ?_
            exact ih S9 (0 : Int32) (x4 + (1 : Int32)) H
          · have H := ite_t H q11
            refine J.run b_M_isThere_40_1 k_M_isThere_40_1 rfl (show J w (d + 2) m_M_isThere (n0, z0, some (.int z.1), mk c z.2) 41 [some (.ref 191), some (.int x1), some (.int x2), some (.int x3), some (.int x4)] [.int (1 : Int32)] (mk c S9) from ?_)
            refine J.goto (tgt := 45) d_M_isThere_41 rfl ?_
            refine J.run b_M_isThere_45_2 k_M_isThere_45_2 rfl (show J w (d + 2) m_M_isThere (n0, z0, some (.int z.1), mk c z.2) 49 [some (.ref 191), some (.int x1), some (.int x2), some (.int (1 : Int32)), some (.int (x4 + (1 : Int32)))] [] (mk c S9) from ?_)
            refine J.goto (tgt := 5) d_M_isThere_49 rfl ?_
            refine J.mask [true, true, true, true, true] ?_
            exact ih S9 (1 : Int32) (x4 + (1 : Int32)) H
theorem c_M_isThere (w : Wd) (d : Nat) (c : cx)   (S : hs) (x1 : Int32) (x2 : Int32)  {z : Int32 × hs} (H : f_M_isThere S x1 x2 = some z) : Cl w (d + 2) m_M_isThere [.ref 191, .int x1, .int x2] (mk c S) (some (.int z.1)) (mk c z.2) := by
  refine Cl.of (Nat.le_refl _) (Nat.le_refl _) (by decide +kernel) (Nat.le_of_ble_eq_true rfl) ?_
  unfold f_M_isThere at H
  generalize hN (mk c S) = n0
  generalize hZ (mk c S) = z0
  show J w (d + 2) m_M_isThere (n0, z0, some (.int z.1), mk c z.2) 0 [some (.ref 191), some (.int x1), some (.int x2), none, none] [] (mk c S)
  refine J.run b_M_isThere_0_4 k_M_isThere_0_4 rfl (show J w (d + 2) m_M_isThere (n0, z0, some (.int z.1), mk c z.2) 5 [some (.ref 191), some (.int x1), some (.int x2), some (.int (0 : Int32)), some (.int (0 : Int32))] [] (mk c S) from ?_)
  refine J.mask [true, true, true, true, true] ?_
  refine lo_M_isThere_5 w d c x1 x2  1000 S (0 : Int32) (0 : Int32) H
def b_M_crossing_0_3 : List Ins := [(.iload_n 1, 0, 0, 0), (.iconst (0), 0, 0, 0), (.bipush (9), 0, 0, 0)]
theorem k_M_crossing_0_3 : bok m_M_crossing 0 b_M_crossing_0_3 = true := by decide +kernel
def b_M_crossing_20_1 : List Ins := [(.iconst (-1), 0, 0, 0)]
theorem k_M_crossing_20_1 : bok m_M_crossing 20 b_M_crossing_20_1 = true := by decide +kernel
def b_M_crossing_10_3 : List Ins := [(.iload_n 2, 0, 0, 0), (.iconst (0), 0, 0, 0), (.bipush (9), 0, 0, 0)]
theorem k_M_crossing_10_3 : bok m_M_crossing 10 b_M_crossing_10_3 = true := by decide +kernel
def b_M_crossing_22_7 : List Ins := [(.aload_n 0, 0, 0, 0), (.getfield 9, 11, 0, 2), (.iconst (1), 0, 0, 0), (.iaload, 0, 0, 0), (.istore_n 3, 0, 0, 0), (.iload_n 3, 0, 0, 0), (.bipush (12), 0, 0, 0)]
theorem k_M_crossing_22_7 : bok m_M_crossing 22 b_M_crossing_22_7 = true := by decide +kernel
def b_M_crossing_38_3 : List Ins := [(.aload_n 0, 0, 0, 0), (.iload_n 1, 0, 0, 0), (.iload_n 2, 0, 0, 0)]
theorem k_M_crossing_38_3 : bok m_M_crossing 38 b_M_crossing_38_3 = true := by decide +kernel
def b_M_crossing_50_29 : List Ins := [(.aload_n 0, 0, 0, 0), (.getfield 9, 11, 0, 2), (.iconst (5), 0, 0, 0), (.iconst (2), 0, 0, 0), (.iload_n 3, 0, 0, 0), (.imul, 0, 0, 0), (.iadd, 0, 0, 0), (.iload_n 1, 0, 0, 0), (.iastore, 0, 0, 0), (.aload_n 0, 0, 0, 0), (.getfield 9, 11, 0, 2), (.iconst (5), 0, 0, 0), (.iconst (2), 0, 0, 0), (.iload_n 3, 0, 0, 0), (.imul, 0, 0, 0), (.iadd, 0, 0, 0), (.iconst (1), 0, 0, 0), (.iadd, 0, 0, 0), (.iload_n 2, 0, 0, 0), (.iastore, 0, 0, 0), (.aload_n 0, 0, 0, 0), (.getfield 9, 11, 0, 2), (.iconst (1), 0, 0, 0), (.dup2, 0, 0, 0), (.iaload, 0, 0, 0), (.iconst (1), 0, 0, 0), (.iadd, 0, 0, 0), (.iastore, 0, 0, 0), (.iload_n 3, 0, 0, 0)]
theorem k_M_crossing_50_29 : bok m_M_crossing 50 b_M_crossing_50_29 = true := by decide +kernel
def b_M_crossing_47_1 : List Ins := [(.bipush (-4), 0, 0, 0)]
theorem k_M_crossing_47_1 : bok m_M_crossing 47 b_M_crossing_47_1 = true := by decide +kernel
def b_M_crossing_35_1 : List Ins := [(.bipush (-2), 0, 0, 0)]
theorem k_M_crossing_35_1 : bok m_M_crossing 35 b_M_crossing_35_1 = true := by decide +kernel
theorem d_M_crossing_4 : decode m_M_crossing.2.1 4 = .ok (.invokestatic 105, 3) := by decide +kernel
theorem d_M_crossing_7 : decode m_M_crossing.2.1 7 = .ok (.ifCond .eq (13), 3) := by decide +kernel
theorem d_M_crossing_21 : decode m_M_crossing.2.1 21 = .ok (.ireturn, 1) := by decide +kernel
theorem d_M_crossing_14 : decode m_M_crossing.2.1 14 = .ok (.invokestatic 105, 3) := by decide +kernel
theorem d_M_crossing_17 : decode m_M_crossing.2.1 17 = .ok (.ifCond .ne (5), 3) := by decide +kernel
theorem d_M_crossing_32 : decode m_M_crossing.2.1 32 = .ok (.if_icmp .ne (6), 3) := by decide +kernel
theorem d_M_crossing_41 : decode m_M_crossing.2.1 41 = .ok (.invokevirtual 116, 3) := by decide +kernel
theorem d_M_crossing_44 : decode m_M_crossing.2.1 44 = .ok (.ifCond .eq (6), 3) := by decide +kernel
theorem d_M_crossing_85 : decode m_M_crossing.2.1 85 = .ok (.ireturn, 1) := by decide +kernel
theorem d_M_crossing_49 : decode m_M_crossing.2.1 49 = .ok (.ireturn, 1) := by decide +kernel
theorem d_M_crossing_37 : decode m_M_crossing.2.1 37 = .ok (.ireturn, 1) := by decide +kernel
def f_M_crossing  (S : hs) (x1 : Int32) (x2 : Int32) : Option (Int32 × hs) := bd (f_M_in  S x1 (0 : Int32) (9 : Int32)) fun r1 S2 => (if r1 = 0 then some ((-1 : Int32), S2) else bd (f_M_in  S2 x2 (0 : Int32) (9 : Int32)) fun r5 S6 => (if r5 = 0 then some ((-1 : Int32), S6) else (if (gI S6 192 1) = (12 : Int32) then some ((-2 : Int32), S6) else bd (f_M_isThere  S6 x1 x2) fun r10 S11 => (if r10 = 0 then ck (inb ((5 : Int32) + ((2 : Int32) * (gI S6 192 1))) 358) (ck (inb (((5 : Int32) + ((2 : Int32) * (gI S6 192 1))) + (1 : Int32)) 358) (some ((gI S6 192 1), (uI (uI (uI S11 192 (((5 : Int32) + ((2 : Int32) * (gI S6 192 1)))).toNatClampNeg x1) 192 ((((5 : Int32) + ((2 : Int32) * (gI S6 192 1))) + (1 : Int32))).toNatClampNeg x2) 192 1 ((gI (uI (uI S11 192 (((5 : Int32) + ((2 : Int32) * (gI S6 192 1)))).toNatClampNeg x1) 192 ((((5 : Int32) + ((2 : Int32) * (gI S6 192 1))) + (1 : Int32))).toNatClampNeg x2) 192 1) + (1 : Int32)))))) else some ((-4 : Int32), S11)))))
theorem c_M_crossing (w : Wd) (d : Nat) (c : cx)   (S : hs) (x1 : Int32) (x2 : Int32)  {z : Int32 × hs} (H : f_M_crossing S x1 x2 = some z) : Cl w (d + 3) m_M_crossing [.ref 191, .int x1, .int x2] (mk c S) (some (.int z.1)) (mk c z.2) := by
  refine Cl.of (Nat.le_refl _) (Nat.le_refl _) (by decide +kernel) (Nat.le_of_ble_eq_true rfl) ?_
  unfold f_M_crossing at H
  generalize hN (mk c S) = n0
  generalize hZ (mk c S) = z0
  show J w (d + 3) m_M_crossing (n0, z0, some (.int z.1), mk c z.2) 0 [some (.ref 191), some (.int x1), some (.int x2), none] [] (mk c S)
  refine J.run b_M_crossing_0_3 k_M_crossing_0_3 rfl (show J w (d + 3) m_M_crossing (n0, z0, some (.int z.1), mk c z.2) 4 [some (.ref 191), some (.int x1), some (.int x2), none] [.int (9 : Int32), .int (0 : Int32), .int x1] (mk c S) from ?_)
  obtain ⟨r1, S2, h3, H⟩ := bd_e H
  refine J.callS (y := m_M_in) (av := [.int x1, .int (0 : Int32), .int (9 : Int32)]) (rest := []) l_M_105 d_M_crossing_4 (c_M_in w (d + 1) c  S x1 (0 : Int32) (9 : Int32) h3) rfl (Nat.le_of_ble_eq_true rfl) ⟨Nat.le_refl _, Nat.le_refl _⟩ (show J w (d + 3) m_M_crossing (n0, z0, some (.int z.1), mk c z.2) 7 [some (.ref 191), some (.int x1), some (.int x2), none] [.int r1] (mk c S2) from ?_)
  refine J.zeq (tgt := 20) d_M_crossing_7 rfl (fun q4 => ?_) (fun q4 => ?_)
  · have H := ite_t H q4
    refine J.run b_M_crossing_20_1 k_M_crossing_20_1 rfl (show J w (d + 3) m_M_crossing (n0, z0, some (.int z.1), mk c z.2) 21 [some (.ref 191), some (.int x1), some (.int x2), none] [.int (-1 : Int32)] (mk c S2) from ?_)
    obtain rfl := some_e H
    exact J.iret d_M_crossing_21 rfl rfl
  · have H := ite_f H q4
    refine J.run b_M_crossing_10_3 k_M_crossing_10_3 rfl (show J w (d + 3) m_M_crossing (n0, z0, some (.int z.1), mk c z.2) 14 [some (.ref 191), some (.int x1), some (.int x2), none] [.int (9 : Int32), .int (0 : Int32), .int x2] (mk c S2) from ?_)
    obtain ⟨r5, S6, h7, H⟩ := bd_e H
    refine J.callS (y := m_M_in) (av := [.int x2, .int (0 : Int32), .int (9 : Int32)]) (rest := []) l_M_105 d_M_crossing_14 (c_M_in w (d + 1) c  S2 x2 (0 : Int32) (9 : Int32) h7) rfl (Nat.le_of_ble_eq_true rfl) ⟨Nat.le_refl _, Nat.le_refl _⟩ (show J w (d + 3) m_M_crossing (n0, z0, some (.int z.1), mk c z.2) 17 [some (.ref 191), some (.int x1), some (.int x2), none] [.int r5] (mk c S6) from ?_)
    refine J.zne (tgt := 22) d_M_crossing_17 rfl (fun q8 => ?_) (fun q8 => ?_)
    · have H := ite_f H q8
      refine J.run b_M_crossing_22_7 k_M_crossing_22_7 rfl (And.intro (okO_st (S := S6) rfl) (And.intro (okA_st (S := S6) (n := 358) rfl rfl) (show J w (d + 3) m_M_crossing (n0, z0, some (.int z.1), mk c z.2) 32 [some (.ref 191), some (.int x1), some (.int x2), some (.int (gI S6 192 1))] [.int (12 : Int32), .int (gI S6 192 1)] (mk c S6) from ?_)))
      refine J.cne (tgt := 38) d_M_crossing_32 rfl (fun q9 => ?_) (fun q9 => ?_)
      · have H := ite_f H q9
        refine J.run b_M_crossing_38_3 k_M_crossing_38_3 rfl (show J w (d + 3) m_M_crossing (n0, z0, some (.int z.1), mk c z.2) 41 [some (.ref 191), some (.int x1), some (.int x2), some (.int (gI S6 192 1))] [.int x2, .int x1, .ref 191] (mk c S6) from ?_)
        obtain ⟨r10, S11, h12, H⟩ := bd_e H
        refine J.callV (y := m_M_isThere) (av := [.int x1, .int x2]) (rest := []) (q := 191) l_M_116 d_M_crossing_41 (isC_st rfl rfl) (c_M_isThere w (d + 0) c  S6 x1 x2 h12) rfl (Nat.le_of_ble_eq_true rfl) ⟨Nat.le_refl _, Nat.le_refl _⟩ (show J w (d + 3) m_M_crossing (n0, z0, some (.int z.1), mk c z.2) 44 [some (.ref 191), some (.int x1), some (.int x2), some (.int (gI S6 192 1))] [.int r10] (mk c S11) from ?_)
        refine J.zeq (tgt := 50) d_M_crossing_44 rfl (fun q13 => ?_) (fun q13 => ?_)
        · have H := ite_t H q13
          obtain ⟨g14, H⟩ := ck_e H
          obtain ⟨g15, H⟩ := ck_e H
          refine J.run b_M_crossing_50_29 k_M_crossing_50_29 rfl (And.intro (okO_st (S := S11) rfl) (And.intro (okB_st (S := S11) (n := 358) rfl g14) (And.intro (okO_st (S := (uI S11 192 (((5 : Int32) + ((2 : Int32) * (gI S6 192 1)))).toNatClampNeg x1)) rfl) (And.intro (okB_st (S := (uI S11 192 (((5 : Int32) + ((2 : Int32) * (gI S6 192 1)))).toNatClampNeg x1)) (n := 358) rfl g15) (And.intro (okO_st (S := (uI (uI S11 192 (((5 : Int32) + ((2 : Int32) * (gI S6 192 1)))).toNatClampNeg x1) 192 ((((5 : Int32) + ((2 : Int32) * (gI S6 192 1))) + (1 : Int32))).toNatClampNeg x2)) rfl) (And.intro (okA_st (S := (uI (uI S11 192 (((5 : Int32) + ((2 : Int32) * (gI S6 192 1)))).toNatClampNeg x1) 192 ((((5 : Int32) + ((2 : Int32) * (gI S6 192 1))) + (1 : Int32))).toNatClampNeg x2)) (n := 358) rfl rfl) (And.intro (okB_st (S := (uI (uI S11 192 (((5 : Int32) + ((2 : Int32) * (gI S6 192 1)))).toNatClampNeg x1) 192 ((((5 : Int32) + ((2 : Int32) * (gI S6 192 1))) + (1 : Int32))).toNatClampNeg x2)) (n := 358) rfl rfl) (show J w (d + 3) m_M_crossing (n0, z0, some (.int z.1), mk c z.2) 85 [some (.ref 191), some (.int x1), some (.int x2), some (.int (gI S6 192 1))] [.int (gI S6 192 1)] (mk c (uI (uI (uI S11 192 (((5 : Int32) + ((2 : Int32) * (gI S6 192 1)))).toNatClampNeg x1) 192 ((((5 : Int32) + ((2 : Int32) * (gI S6 192 1))) + (1 : Int32))).toNatClampNeg x2) 192 1 ((gI (uI (uI S11 192 (((5 : Int32) + ((2 : Int32) * (gI S6 192 1)))).toNatClampNeg x1) 192 ((((5 : Int32) + ((2 : Int32) * (gI S6 192 1))) + (1 : Int32))).toNatClampNeg x2) 192 1) + (1 : Int32)))) from ?_))))))))
          obtain rfl := some_e H
          exact J.iret d_M_crossing_85 rfl rfl
        · have H := ite_f H q13
          refine J.run b_M_crossing_47_1 k_M_crossing_47_1 rfl (show J w (d + 3) m_M_crossing (n0, z0, some (.int z.1), mk c z.2) 49 [some (.ref 191), some (.int x1), some (.int x2), some (.int (gI S6 192 1))] [.int (-4 : Int32)] (mk c S11) from ?_)
          obtain rfl := some_e H
          exact J.iret d_M_crossing_49 rfl rfl
      · have H := ite_t H q9
        refine J.run b_M_crossing_35_1 k_M_crossing_35_1 rfl (show J w (d + 3) m_M_crossing (n0, z0, some (.int z.1), mk c z.2) 37 [some (.ref 191), some (.int x1), some (.int x2), some (.int (gI S6 192 1))] [.int (-2 : Int32)] (mk c S6) from ?_)
        obtain rfl := some_e H
        exact J.iret d_M_crossing_37 rfl rfl
    · have H := ite_t H q8
      refine J.run b_M_crossing_20_1 k_M_crossing_20_1 rfl (show J w (d + 3) m_M_crossing (n0, z0, some (.int z.1), mk c z.2) 21 [some (.ref 191), some (.int x1), some (.int x2), none] [.int (-1 : Int32)] (mk c S6) from ?_)
      obtain rfl := some_e H
      exact J.iret d_M_crossing_21 rfl rfl
def b_M_is_0_8 : List Ins := [(.iload_n 1, 0, 0, 0), (.iconst (0), 0, 0, 0), (.aload_n 0, 0, 0, 0), (.getfield 9, 11, 0, 2), (.iload_n 2, 0, 0, 0), (.iaload, 0, 0, 0), (.iconst (1), 0, 0, 0), (.isub, 0, 0, 0)]
theorem k_M_is_0_8 : bok m_M_is 0 b_M_is_0_8 = true := by decide +kernel
theorem d_M_is_10 : decode m_M_is.2.1 10 = .ok (.invokestatic 105, 3) := by decide +kernel
theorem d_M_is_13 : decode m_M_is.2.1 13 = .ok (.ireturn, 1) := by decide +kernel
def f_M_is  (S : hs) (x1 : Int32) (x2 : Int32) : Option (Int32 × hs) := ck (inb x2 358) (bd (f_M_in  S x1 (0 : Int32) ((gI S 192 (x2).toNatClampNeg) - (1 : Int32))) fun r2 S3 => ck (isB r2) (some (r2, S3)))
theorem c_M_is (w : Wd) (d : Nat) (c : cx)   (S : hs) (x1 : Int32) (x2 : Int32)  {z : Int32 × hs} (H : f_M_is S x1 x2 = some z) : Cl w (d + 2) m_M_is [.ref 191, .int x1, .int x2] (mk c S) (some (.int z.1)) (mk c z.2) := by
  refine Cl.of (Nat.le_refl _) (Nat.le_refl _) (by decide +kernel) (Nat.le_of_ble_eq_true rfl) ?_
  unfold f_M_is at H
  generalize hN (mk c S) = n0
  generalize hZ (mk c S) = z0
  show J w (d + 2) m_M_is (n0, z0, some (.int z.1), mk c z.2) 0 [some (.ref 191), some (.int x1), some (.int x2)] [] (mk c S)
  obtain ⟨g1, H⟩ := ck_e H
  refine J.run b_M_is_0_8 k_M_is_0_8 rfl (And.intro (okO_st (S := S) rfl) (And.intro (okA_st (S := S) (n := 358) rfl g1) (show J w (d + 2) m_M_is (n0, z0, some (.int z.1), mk c z.2) 10 [some (.ref 191), some (.int x1), some (.int x2)] [.int ((gI S 192 (x2).toNatClampNeg) - (1 : Int32)), .int (0 : Int32), .int x1] (mk c S) from ?_)))
  obtain ⟨r2, S3, h4, H⟩ := bd_e H
  refine J.callS (y := m_M_in) (av := [.int x1, .int (0 : Int32), .int ((gI S 192 (x2).toNatClampNeg) - (1 : Int32))]) (rest := []) l_M_105 d_M_is_10 (c_M_in w (d + 0) c  S x1 (0 : Int32) ((gI S 192 (x2).toNatClampNeg) - (1 : Int32)) h4) rfl (Nat.le_of_ble_eq_true rfl) ⟨Nat.le_refl _, Nat.le_refl _⟩ (show J w (d + 2) m_M_is (n0, z0, some (.int z.1), mk c z.2) 13 [some (.ref 191), some (.int x1), some (.int x2)] [.int r2] (mk c S3) from ?_)
  obtain ⟨g5, H⟩ := ck_e H
  obtain rfl := some_e H
  exact J.nret d_M_is_13 rfl (isB_n g5) rfl
def b_M_streetIs_0_10 : List Ins := [(.aload_n 0, 0, 0, 0), (.getfield 9, 11, 0, 2), (.bipush (29), 0, 0, 0), (.iconst (5), 0, 0, 0), (.iload_n 1, 0, 0, 0), (.imul, 0, 0, 0), (.iadd, 0, 0, 0), (.iload_n 2, 0, 0, 0), (.iadd, 0, 0, 0), (.iaload, 0, 0, 0)]
theorem k_M_streetIs_0_10 : bok m_M_streetIs 0 b_M_streetIs_0_10 = true := by decide +kernel
theorem d_M_streetIs_13 : decode m_M_streetIs.2.1 13 = .ok (.ireturn, 1) := by decide +kernel
def f_M_streetIs  (S : hs) (x1 : Int32) (x2 : Int32) : Option (Int32 × hs) := ck (inb (((29 : Int32) + ((5 : Int32) * x1)) + x2) 358) (some ((gI S 192 ((((29 : Int32) + ((5 : Int32) * x1)) + x2)).toNatClampNeg), S))
theorem c_M_streetIs (w : Wd) (d : Nat) (c : cx)   (S : hs) (x1 : Int32) (x2 : Int32)  {z : Int32 × hs} (H : f_M_streetIs S x1 x2 = some z) : Cl w (d + 1) m_M_streetIs [.ref 191, .int x1, .int x2] (mk c S) (some (.int z.1)) (mk c z.2) := by
  refine Cl.of (Nat.le_refl _) (Nat.le_refl _) (by decide +kernel) (Nat.le_of_ble_eq_true rfl) ?_
  unfold f_M_streetIs at H
  generalize hN (mk c S) = n0
  generalize hZ (mk c S) = z0
  show J w (d + 1) m_M_streetIs (n0, z0, some (.int z.1), mk c z.2) 0 [some (.ref 191), some (.int x1), some (.int x2)] [] (mk c S)
  obtain ⟨g1, H⟩ := ck_e H
  refine J.run b_M_streetIs_0_10 k_M_streetIs_0_10 rfl (And.intro (okO_st (S := S) rfl) (And.intro (okA_st (S := S) (n := 358) rfl g1) (show J w (d + 1) m_M_streetIs (n0, z0, some (.int z.1), mk c z.2) 13 [some (.ref 191), some (.int x1), some (.int x2)] [.int (gI S 192 ((((29 : Int32) + ((5 : Int32) * x1)) + x2)).toNatClampNeg)] (mk c S) from ?_)))
  obtain rfl := some_e H
  exact J.iret d_M_streetIs_13 rfl rfl
def b_M_isCourse_0_5 : List Ins := [(.iload_n 1, 0, 0, 0), (.iconst (2), 0, 0, 0), (.idiv, 0, 0, 0), (.istore_n 2, 0, 0, 0), (.iload_n 1, 0, 0, 0)]
theorem k_M_isCourse_0_5 : bok m_M_isCourse 0 b_M_isCourse_0_5 = true := by decide +kernel
def b_M_isCourse_46_1 : List Ins := [(.iconst (0), 0, 0, 0)]
theorem k_M_isCourse_46_1 : bok m_M_isCourse 46 b_M_isCourse_46_1 = true := by decide +kernel
def b_M_isCourse_8_5 : List Ins := [(.iload_n 2, 0, 0, 0), (.aload_n 0, 0, 0, 0), (.getfield 9, 11, 0, 2), (.iconst (2), 0, 0, 0), (.iaload, 0, 0, 0)]
theorem k_M_isCourse_8_5 : bok m_M_isCourse 8 b_M_isCourse_8_5 = true := by decide +kernel
def b_M_isCourse_18_3 : List Ins := [(.aload_n 0, 0, 0, 0), (.iload_n 2, 0, 0, 0), (.iconst (4), 0, 0, 0)]
theorem k_M_isCourse_18_3 : bok m_M_isCourse 18 b_M_isCourse_18_3 = true := by decide +kernel
def b_M_isCourse_27_3 : List Ins := [(.iload_n 1, 0, 0, 0), (.iconst (2), 0, 0, 0), (.irem, 0, 0, 0)]
theorem k_M_isCourse_27_3 : bok m_M_isCourse 27 b_M_isCourse_27_3 = true := by decide +kernel
def b_M_isCourse_42_1 : List Ins := [(.iconst (1), 0, 0, 0)]
theorem k_M_isCourse_42_1 : bok m_M_isCourse 42 b_M_isCourse_42_1 = true := by decide +kernel
def b_M_isCourse_33_3 : List Ins := [(.aload_n 0, 0, 0, 0), (.iload_n 2, 0, 0, 0), (.iconst (3), 0, 0, 0)]
theorem k_M_isCourse_33_3 : bok m_M_isCourse 33 b_M_isCourse_33_3 = true := by decide +kernel
theorem d_M_isCourse_5 : decode m_M_isCourse.2.1 5 = .ok (.ifCond .lt (41), 3) := by decide +kernel
theorem d_M_isCourse_47 : decode m_M_isCourse.2.1 47 = .ok (.ireturn, 1) := by decide +kernel
theorem d_M_isCourse_15 : decode m_M_isCourse.2.1 15 = .ok (.if_icmp .ge (31), 3) := by decide +kernel
theorem d_M_isCourse_21 : decode m_M_isCourse.2.1 21 = .ok (.invokevirtual 133, 3) := by decide +kernel
theorem d_M_isCourse_24 : decode m_M_isCourse.2.1 24 = .ok (.ifCond .ne (22), 3) := by decide +kernel
theorem d_M_isCourse_30 : decode m_M_isCourse.2.1 30 = .ok (.ifCond .eq (12), 3) := by decide +kernel
theorem d_M_isCourse_43 : decode m_M_isCourse.2.1 43 = .ok (.goto (4), 3) := by decide +kernel
theorem d_M_isCourse_36 : decode m_M_isCourse.2.1 36 = .ok (.invokevirtual 133, 3) := by decide +kernel
theorem d_M_isCourse_39 : decode m_M_isCourse.2.1 39 = .ok (.ifCond .ne (7), 3) := by decide +kernel
def f_M_isCourse  (S : hs) (x1 : Int32) : Option (Int32 × hs) := (if x1 < 0 then some ((0 : Int32), S) else (if (gI S 192 2) ≤ (x1 / (2 : Int32)) then some ((0 : Int32), S) else bd (f_M_streetIs  S (x1 / (2 : Int32)) (4 : Int32)) fun r3 S4 => (if r3 = 0 then (if (x1 - x1 / (2 : Int32) * (2 : Int32)) = 0 then some ((1 : Int32), S4) else bd (f_M_streetIs  S4 (x1 / (2 : Int32)) (3 : Int32)) fun r8 S9 => (if r8 = 0 then some ((1 : Int32), S9) else some ((0 : Int32), S9))) else some ((0 : Int32), S4))))
theorem c_M_isCourse (w : Wd) (d : Nat) (c : cx)   (S : hs) (x1 : Int32)  {z : Int32 × hs} (H : f_M_isCourse S x1 = some z) : Cl w (d + 2) m_M_isCourse [.ref 191, .int x1] (mk c S) (some (.int z.1)) (mk c z.2) := by
  refine Cl.of (Nat.le_refl _) (Nat.le_refl _) (by decide +kernel) (Nat.le_of_ble_eq_true rfl) ?_
  unfold f_M_isCourse at H
  generalize hN (mk c S) = n0
  generalize hZ (mk c S) = z0
  show J w (d + 2) m_M_isCourse (n0, z0, some (.int z.1), mk c z.2) 0 [some (.ref 191), some (.int x1), none] [] (mk c S)
  refine J.run b_M_isCourse_0_5 k_M_isCourse_0_5 rfl (And.intro (by decide) (show J w (d + 2) m_M_isCourse (n0, z0, some (.int z.1), mk c z.2) 5 [some (.ref 191), some (.int x1), some (.int (x1 / (2 : Int32)))] [.int x1] (mk c S) from ?_))
  refine J.zlt (tgt := 46) d_M_isCourse_5 rfl (fun q1 => ?_) (fun q1 => ?_)
  · have H := ite_t H q1
    refine J.run b_M_isCourse_46_1 k_M_isCourse_46_1 rfl (show J w (d + 2) m_M_isCourse (n0, z0, some (.int z.1), mk c z.2) 47 [some (.ref 191), some (.int x1), some (.int (x1 / (2 : Int32)))] [.int (0 : Int32)] (mk c S) from ?_)
    obtain rfl := some_e H
    exact J.nret d_M_isCourse_47 rfl rfl rfl
  · have H := ite_f H q1
    refine J.run b_M_isCourse_8_5 k_M_isCourse_8_5 rfl (And.intro (okO_st (S := S) rfl) (And.intro (okA_st (S := S) (n := 358) rfl rfl) (show J w (d + 2) m_M_isCourse (n0, z0, some (.int z.1), mk c z.2) 15 [some (.ref 191), some (.int x1), some (.int (x1 / (2 : Int32)))] [.int (gI S 192 2), .int (x1 / (2 : Int32))] (mk c S) from ?_)))
    refine J.cge (tgt := 46) d_M_isCourse_15 rfl (fun q2 => ?_) (fun q2 => ?_)
    · have H := ite_t H q2
      refine J.run b_M_isCourse_46_1 k_M_isCourse_46_1 rfl (show J w (d + 2) m_M_isCourse (n0, z0, some (.int z.1), mk c z.2) 47 [some (.ref 191), some (.int x1), some (.int (x1 / (2 : Int32)))] [.int (0 : Int32)] (mk c S) from ?_)
      obtain rfl := some_e H
      exact J.nret d_M_isCourse_47 rfl rfl rfl
    · have H := ite_f H q2
      refine J.run b_M_isCourse_18_3 k_M_isCourse_18_3 rfl (show J w (d + 2) m_M_isCourse (n0, z0, some (.int z.1), mk c z.2) 21 [some (.ref 191), some (.int x1), some (.int (x1 / (2 : Int32)))] [.int (4 : Int32), .int (x1 / (2 : Int32)), .ref 191] (mk c S) from ?_)
      obtain ⟨r3, S4, h5, H⟩ := bd_e H
      refine J.callV (y := m_M_streetIs) (av := [.int (x1 / (2 : Int32)), .int (4 : Int32)]) (rest := []) (q := 191) l_M_133 d_M_isCourse_21 (isC_st rfl rfl) (c_M_streetIs w (d + 0) c  S (x1 / (2 : Int32)) (4 : Int32) h5) rfl (Nat.le_of_ble_eq_true rfl) ⟨Nat.le_refl _, Nat.le_refl _⟩ (show J w (d + 2) m_M_isCourse (n0, z0, some (.int z.1), mk c z.2) 24 [some (.ref 191), some (.int x1), some (.int (x1 / (2 : Int32)))] [.int r3] (mk c S4) from ?_)
      refine J.zne (tgt := 46) d_M_isCourse_24 rfl (fun q6 => ?_) (fun q6 => ?_)
      · have H := ite_f H q6
        refine J.run b_M_isCourse_46_1 k_M_isCourse_46_1 rfl (show J w (d + 2) m_M_isCourse (n0, z0, some (.int z.1), mk c z.2) 47 [some (.ref 191), some (.int x1), some (.int (x1 / (2 : Int32)))] [.int (0 : Int32)] (mk c S4) from ?_)
        obtain rfl := some_e H
        exact J.nret d_M_isCourse_47 rfl rfl rfl
      · have H := ite_t H q6
        refine J.run b_M_isCourse_27_3 k_M_isCourse_27_3 rfl (And.intro (by decide) (show J w (d + 2) m_M_isCourse (n0, z0, some (.int z.1), mk c z.2) 30 [some (.ref 191), some (.int x1), some (.int (x1 / (2 : Int32)))] [.int (x1 - x1 / (2 : Int32) * (2 : Int32))] (mk c S4) from ?_))
        refine J.zeq (tgt := 42) d_M_isCourse_30 rfl (fun q7 => ?_) (fun q7 => ?_)
        · have H := ite_t H q7
          refine J.run b_M_isCourse_42_1 k_M_isCourse_42_1 rfl (show J w (d + 2) m_M_isCourse (n0, z0, some (.int z.1), mk c z.2) 43 [some (.ref 191), some (.int x1), some (.int (x1 / (2 : Int32)))] [.int (1 : Int32)] (mk c S4) from ?_)
          refine J.goto (tgt := 47) d_M_isCourse_43 rfl ?_
          obtain rfl := some_e H
          exact J.nret d_M_isCourse_47 rfl rfl rfl
        · have H := ite_f H q7
          refine J.run b_M_isCourse_33_3 k_M_isCourse_33_3 rfl (show J w (d + 2) m_M_isCourse (n0, z0, some (.int z.1), mk c z.2) 36 [some (.ref 191), some (.int x1), some (.int (x1 / (2 : Int32)))] [.int (3 : Int32), .int (x1 / (2 : Int32)), .ref 191] (mk c S4) from ?_)
          obtain ⟨r8, S9, h10, H⟩ := bd_e H
          refine J.callV (y := m_M_streetIs) (av := [.int (x1 / (2 : Int32)), .int (3 : Int32)]) (rest := []) (q := 191) l_M_133 d_M_isCourse_36 (isC_st rfl rfl) (c_M_streetIs w (d + 0) c  S4 (x1 / (2 : Int32)) (3 : Int32) h10) rfl (Nat.le_of_ble_eq_true rfl) ⟨Nat.le_refl _, Nat.le_refl _⟩ (show J w (d + 2) m_M_isCourse (n0, z0, some (.int z.1), mk c z.2) 39 [some (.ref 191), some (.int x1), some (.int (x1 / (2 : Int32)))] [.int r8] (mk c S9) from ?_)
          refine J.zne (tgt := 46) d_M_isCourse_39 rfl (fun q11 => ?_) (fun q11 => ?_)
          · have H := ite_f H q11
            refine J.run b_M_isCourse_46_1 k_M_isCourse_46_1 rfl (show J w (d + 2) m_M_isCourse (n0, z0, some (.int z.1), mk c z.2) 47 [some (.ref 191), some (.int x1), some (.int (x1 / (2 : Int32)))] [.int (0 : Int32)] (mk c S9) from ?_)
            obtain rfl := some_e H
            exact J.nret d_M_isCourse_47 rfl rfl rfl
          · have H := ite_t H q11
            refine J.run b_M_isCourse_42_1 k_M_isCourse_42_1 rfl (show J w (d + 2) m_M_isCourse (n0, z0, some (.int z.1), mk c z.2) 43 [some (.ref 191), some (.int x1), some (.int (x1 / (2 : Int32)))] [.int (1 : Int32)] (mk c S9) from ?_)
            refine J.goto (tgt := 47) d_M_isCourse_43 rfl ?_
            obtain rfl := some_e H
            exact J.nret d_M_isCourse_47 rfl rfl rfl
def b_M_endOf_0_7 : List Ins := [(.aload_n 0, 0, 0, 0), (.iload_n 1, 0, 0, 0), (.iconst (2), 0, 0, 0), (.idiv, 0, 0, 0), (.iload_n 1, 0, 0, 0), (.iconst (2), 0, 0, 0), (.irem, 0, 0, 0)]
theorem k_M_endOf_0_7 : bok m_M_endOf 0 b_M_endOf_0_7 = true := by decide +kernel
def b_M_endOf_14_1 : List Ins := [(.iconst (0), 0, 0, 0)]
theorem k_M_endOf_14_1 : bok m_M_endOf 14 b_M_endOf_14_1 = true := by decide +kernel
def b_M_endOf_10_1 : List Ins := [(.iconst (1), 0, 0, 0)]
theorem k_M_endOf_10_1 : bok m_M_endOf 10 b_M_endOf_10_1 = true := by decide +kernel
theorem d_M_endOf_7 : decode m_M_endOf.2.1 7 = .ok (.ifCond .ne (7), 3) := by decide +kernel
theorem d_M_endOf_15 : decode m_M_endOf.2.1 15 = .ok (.invokevirtual 133, 3) := by decide +kernel
theorem d_M_endOf_18 : decode m_M_endOf.2.1 18 = .ok (.ireturn, 1) := by decide +kernel
theorem d_M_endOf_11 : decode m_M_endOf.2.1 11 = .ok (.goto (4), 3) := by decide +kernel
def f_M_endOf  (S : hs) (x1 : Int32) : Option (Int32 × hs) := (if (x1 - x1 / (2 : Int32) * (2 : Int32)) = 0 then bd (f_M_streetIs  S (x1 / (2 : Int32)) (1 : Int32)) fun r5 S6 => some (r5, S6) else bd (f_M_streetIs  S (x1 / (2 : Int32)) (0 : Int32)) fun r2 S3 => some (r2, S3))
theorem c_M_endOf (w : Wd) (d : Nat) (c : cx)   (S : hs) (x1 : Int32)  {z : Int32 × hs} (H : f_M_endOf S x1 = some z) : Cl w (d + 2) m_M_endOf [.ref 191, .int x1] (mk c S) (some (.int z.1)) (mk c z.2) := by
  refine Cl.of (Nat.le_refl _) (Nat.le_refl _) (by decide +kernel) (Nat.le_of_ble_eq_true rfl) ?_
  unfold f_M_endOf at H
  generalize hN (mk c S) = n0
  generalize hZ (mk c S) = z0
  show J w (d + 2) m_M_endOf (n0, z0, some (.int z.1), mk c z.2) 0 [some (.ref 191), some (.int x1)] [] (mk c S)
  refine J.run b_M_endOf_0_7 k_M_endOf_0_7 rfl (And.intro (by decide) (And.intro (by decide) (show J w (d + 2) m_M_endOf (n0, z0, some (.int z.1), mk c z.2) 7 [some (.ref 191), some (.int x1)] [.int (x1 - x1 / (2 : Int32) * (2 : Int32)), .int (x1 / (2 : Int32)), .ref 191] (mk c S) from ?_)))
  refine J.zne (tgt := 14) d_M_endOf_7 rfl (fun q1 => ?_) (fun q1 => ?_)
  · have H := ite_f H q1
    refine J.run b_M_endOf_14_1 k_M_endOf_14_1 rfl (show J w (d + 2) m_M_endOf (n0, z0, some (.int z.1), mk c z.2) 15 [some (.ref 191), some (.int x1)] [.int (0 : Int32), .int (x1 / (2 : Int32)), .ref 191] (mk c S) from ?_)
    obtain ⟨r2, S3, h4, H⟩ := bd_e H
    refine J.callV (y := m_M_streetIs) (av := [.int (x1 / (2 : Int32)), .int (0 : Int32)]) (rest := []) (q := 191) l_M_133 d_M_endOf_15 (isC_st rfl rfl) (c_M_streetIs w (d + 0) c  S (x1 / (2 : Int32)) (0 : Int32) h4) rfl (Nat.le_of_ble_eq_true rfl) ⟨Nat.le_refl _, Nat.le_refl _⟩ (show J w (d + 2) m_M_endOf (n0, z0, some (.int z.1), mk c z.2) 18 [some (.ref 191), some (.int x1)] [.int r2] (mk c S3) from ?_)
    obtain rfl := some_e H
    exact J.iret d_M_endOf_18 rfl rfl
  · have H := ite_t H q1
    refine J.run b_M_endOf_10_1 k_M_endOf_10_1 rfl (show J w (d + 2) m_M_endOf (n0, z0, some (.int z.1), mk c z.2) 11 [some (.ref 191), some (.int x1)] [.int (1 : Int32), .int (x1 / (2 : Int32)), .ref 191] (mk c S) from ?_)
    refine J.goto (tgt := 15) d_M_endOf_11 rfl ?_
    obtain ⟨r5, S6, h7, H⟩ := bd_e H
    refine J.callV (y := m_M_streetIs) (av := [.int (x1 / (2 : Int32)), .int (1 : Int32)]) (rest := []) (q := 191) l_M_133 d_M_endOf_15 (isC_st rfl rfl) (c_M_streetIs w (d + 0) c  S (x1 / (2 : Int32)) (1 : Int32) h7) rfl (Nat.le_of_ble_eq_true rfl) ⟨Nat.le_refl _, Nat.le_refl _⟩ (show J w (d + 2) m_M_endOf (n0, z0, some (.int z.1), mk c z.2) 18 [some (.ref 191), some (.int x1)] [.int r5] (mk c S6) from ?_)
    obtain rfl := some_e H
    exact J.iret d_M_endOf_18 rfl rfl
def b_M_beginOf_0_7 : List Ins := [(.aload_n 0, 0, 0, 0), (.iload_n 1, 0, 0, 0), (.iconst (2), 0, 0, 0), (.idiv, 0, 0, 0), (.iload_n 1, 0, 0, 0), (.iconst (2), 0, 0, 0), (.irem, 0, 0, 0)]
theorem k_M_beginOf_0_7 : bok m_M_beginOf 0 b_M_beginOf_0_7 = true := by decide +kernel
def b_M_beginOf_14_1 : List Ins := [(.iconst (1), 0, 0, 0)]
theorem k_M_beginOf_14_1 : bok m_M_beginOf 14 b_M_beginOf_14_1 = true := by decide +kernel
def b_M_beginOf_10_1 : List Ins := [(.iconst (0), 0, 0, 0)]
theorem k_M_beginOf_10_1 : bok m_M_beginOf 10 b_M_beginOf_10_1 = true := by decide +kernel
theorem d_M_beginOf_7 : decode m_M_beginOf.2.1 7 = .ok (.ifCond .ne (7), 3) := by decide +kernel
theorem d_M_beginOf_15 : decode m_M_beginOf.2.1 15 = .ok (.invokevirtual 133, 3) := by decide +kernel
theorem d_M_beginOf_18 : decode m_M_beginOf.2.1 18 = .ok (.ireturn, 1) := by decide +kernel
theorem d_M_beginOf_11 : decode m_M_beginOf.2.1 11 = .ok (.goto (4), 3) := by decide +kernel
def f_M_beginOf  (S : hs) (x1 : Int32) : Option (Int32 × hs) := (if (x1 - x1 / (2 : Int32) * (2 : Int32)) = 0 then bd (f_M_streetIs  S (x1 / (2 : Int32)) (0 : Int32)) fun r5 S6 => some (r5, S6) else bd (f_M_streetIs  S (x1 / (2 : Int32)) (1 : Int32)) fun r2 S3 => some (r2, S3))
theorem c_M_beginOf (w : Wd) (d : Nat) (c : cx)   (S : hs) (x1 : Int32)  {z : Int32 × hs} (H : f_M_beginOf S x1 = some z) : Cl w (d + 2) m_M_beginOf [.ref 191, .int x1] (mk c S) (some (.int z.1)) (mk c z.2) := by
  refine Cl.of (Nat.le_refl _) (Nat.le_refl _) (by decide +kernel) (Nat.le_of_ble_eq_true rfl) ?_
  unfold f_M_beginOf at H
  generalize hN (mk c S) = n0
  generalize hZ (mk c S) = z0
  show J w (d + 2) m_M_beginOf (n0, z0, some (.int z.1), mk c z.2) 0 [some (.ref 191), some (.int x1)] [] (mk c S)
  refine J.run b_M_beginOf_0_7 k_M_beginOf_0_7 rfl (And.intro (by decide) (And.intro (by decide) (show J w (d + 2) m_M_beginOf (n0, z0, some (.int z.1), mk c z.2) 7 [some (.ref 191), some (.int x1)] [.int (x1 - x1 / (2 : Int32) * (2 : Int32)), .int (x1 / (2 : Int32)), .ref 191] (mk c S) from ?_)))
  refine J.zne (tgt := 14) d_M_beginOf_7 rfl (fun q1 => ?_) (fun q1 => ?_)
  · have H := ite_f H q1
    refine J.run b_M_beginOf_14_1 k_M_beginOf_14_1 rfl (show J w (d + 2) m_M_beginOf (n0, z0, some (.int z.1), mk c z.2) 15 [some (.ref 191), some (.int x1)] [.int (1 : Int32), .int (x1 / (2 : Int32)), .ref 191] (mk c S) from ?_)
    obtain ⟨r2, S3, h4, H⟩ := bd_e H
    refine J.callV (y := m_M_streetIs) (av := [.int (x1 / (2 : Int32)), .int (1 : Int32)]) (rest := []) (q := 191) l_M_133 d_M_beginOf_15 (isC_st rfl rfl) (c_M_streetIs w (d + 0) c  S (x1 / (2 : Int32)) (1 : Int32) h4) rfl (Nat.le_of_ble_eq_true rfl) ⟨Nat.le_refl _, Nat.le_refl _⟩ (show J w (d + 2) m_M_beginOf (n0, z0, some (.int z.1), mk c z.2) 18 [some (.ref 191), some (.int x1)] [.int r2] (mk c S3) from ?_)
    obtain rfl := some_e H
    exact J.iret d_M_beginOf_18 rfl rfl
  · have H := ite_t H q1
    refine J.run b_M_beginOf_10_1 k_M_beginOf_10_1 rfl (show J w (d + 2) m_M_beginOf (n0, z0, some (.int z.1), mk c z.2) 11 [some (.ref 191), some (.int x1)] [.int (0 : Int32), .int (x1 / (2 : Int32)), .ref 191] (mk c S) from ?_)
    refine J.goto (tgt := 15) d_M_beginOf_11 rfl ?_
    obtain ⟨r5, S6, h7, H⟩ := bd_e H
    refine J.callV (y := m_M_streetIs) (av := [.int (x1 / (2 : Int32)), .int (0 : Int32)]) (rest := []) (q := 191) l_M_133 d_M_beginOf_15 (isC_st rfl rfl) (c_M_streetIs w (d + 0) c  S (x1 / (2 : Int32)) (0 : Int32) h7) rfl (Nat.le_of_ble_eq_true rfl) ⟨Nat.le_refl _, Nat.le_refl _⟩ (show J w (d + 2) m_M_beginOf (n0, z0, some (.int z.1), mk c z.2) 18 [some (.ref 191), some (.int x1)] [.int r5] (mk c S6) from ?_)
    obtain rfl := some_e H
    exact J.iret d_M_beginOf_18 rfl rfl
def b_M_crossingOf_0_3 : List Ins := [(.aload_n 0, 0, 0, 0), (.iload_n 1, 0, 0, 0), (.iconst (1), 0, 0, 0)]
theorem k_M_crossingOf_0_3 : bok m_M_crossingOf 0 b_M_crossingOf_0_3 = true := by decide +kernel
def b_M_crossingOf_18_1 : List Ins := [(.iconst (-1), 0, 0, 0)]
theorem k_M_crossingOf_18_1 : bok m_M_crossingOf 18 b_M_crossingOf_18_1 = true := by decide +kernel
def b_M_crossingOf_9_3 : List Ins := [(.iload_n 2, 0, 0, 0), (.iconst (0), 0, 0, 0), (.iconst (3), 0, 0, 0)]
theorem k_M_crossingOf_9_3 : bok m_M_crossingOf 9 b_M_crossingOf_9_3 = true := by decide +kernel
def b_M_crossingOf_20_4 : List Ins := [(.iconst (0), 0, 0, 0), (.istore_n 3, 0, 0, 0), (.iconst (0), 0, 0, 0), (.istore 4, 0, 0, 0)]
theorem k_M_crossingOf_20_4 : bok m_M_crossingOf 20 b_M_crossingOf_20_4 = true := by decide +kernel
def b_M_crossingOf_25_2 : List Ins := [(.iload 4, 0, 0, 0), (.bipush (40), 0, 0, 0)]
theorem k_M_crossingOf_25_2 : bok m_M_crossingOf 25 b_M_crossingOf_25_2 = true := by decide +kernel
def b_M_crossingOf_32_2 : List Ins := [(.iload_n 2, 0, 0, 0), (.iconst (1), 0, 0, 0)]
theorem k_M_crossingOf_32_2 : bok m_M_crossingOf 32 b_M_crossingOf_32_2 = true := by decide +kernel
def b_M_crossingOf_37_3 : List Ins := [(.iload_n 3, 0, 0, 0), (.aload_n 0, 0, 0, 0), (.iload 4, 0, 0, 0)]
theorem k_M_crossingOf_37_3 : bok m_M_crossingOf 37 b_M_crossingOf_37_3 = true := by decide +kernel
def b_M_crossingOf_75_4 : List Ins := [(.iconst (0), 0, 0, 0), (.iadd, 0, 0, 0), (.istore_n 3, 0, 0, 0), (.iinc 4 (1), 0, 0, 0)]
theorem k_M_crossingOf_75_4 : bok m_M_crossingOf 75 b_M_crossingOf_75_4 = true := by decide +kernel
def b_M_crossingOf_47_2 : List Ins := [(.iload_n 2, 0, 0, 0), (.iconst (2), 0, 0, 0)]
theorem k_M_crossingOf_47_2 : bok m_M_crossingOf 47 b_M_crossingOf_47_2 = true := by decide +kernel
def b_M_crossingOf_61_2 : List Ins := [(.aload_n 0, 0, 0, 0), (.iload 4, 0, 0, 0)]
theorem k_M_crossingOf_61_2 : bok m_M_crossingOf 61 b_M_crossingOf_61_2 = true := by decide +kernel
def b_M_crossingOf_67_1 : List Ins := [(.iload_n 1, 0, 0, 0)]
theorem k_M_crossingOf_67_1 : bok m_M_crossingOf 67 b_M_crossingOf_67_1 = true := by decide +kernel
def b_M_crossingOf_71_1 : List Ins := [(.iconst (1), 0, 0, 0)]
theorem k_M_crossingOf_71_1 : bok m_M_crossingOf 71 b_M_crossingOf_71_1 = true := by decide +kernel
def b_M_crossingOf_76_3 : List Ins := [(.iadd, 0, 0, 0), (.istore_n 3, 0, 0, 0), (.iinc 4 (1), 0, 0, 0)]
theorem k_M_crossingOf_76_3 : bok m_M_crossingOf 76 b_M_crossingOf_76_3 = true := by decide +kernel
def b_M_crossingOf_52_2 : List Ins := [(.aload_n 0, 0, 0, 0), (.iload 4, 0, 0, 0)]
theorem k_M_crossingOf_52_2 : bok m_M_crossingOf 52 b_M_crossingOf_52_2 = true := by decide +kernel
def b_M_crossingOf_84_1 : List Ins := [(.iload_n 2, 0, 0, 0)]
theorem k_M_crossingOf_84_1 : bok m_M_crossingOf 84 b_M_crossingOf_84_1 = true := by decide +kernel
def b_M_crossingOf_96_2 : List Ins := [(.iload_n 2, 0, 0, 0), (.iconst (1), 0, 0, 0)]
theorem k_M_crossingOf_96_2 : bok m_M_crossingOf 96 b_M_crossingOf_96_2 = true := by decide +kernel
def b_M_crossingOf_109_1 : List Ins := [(.iload_n 3, 0, 0, 0)]
theorem k_M_crossingOf_109_1 : bok m_M_crossingOf 109 b_M_crossingOf_109_1 = true := by decide +kernel
def b_M_crossingOf_101_2 : List Ins := [(.aload_n 0, 0, 0, 0), (.iload_n 1, 0, 0, 0)]
theorem k_M_crossingOf_101_2 : bok m_M_crossingOf 101 b_M_crossingOf_101_2 = true := by decide +kernel
def b_M_crossingOf_88_2 : List Ins := [(.aload_n 0, 0, 0, 0), (.iload_n 1, 0, 0, 0)]
theorem k_M_crossingOf_88_2 : bok m_M_crossingOf 88 b_M_crossingOf_88_2 = true := by decide +kernel
theorem d_M_crossingOf_3 : decode m_M_crossingOf.2.1 3 = .ok (.invokevirtual 120, 3) := by decide +kernel
theorem d_M_crossingOf_6 : decode m_M_crossingOf.2.1 6 = .ok (.ifCond .eq (12), 3) := by decide +kernel
theorem d_M_crossingOf_19 : decode m_M_crossingOf.2.1 19 = .ok (.ireturn, 1) := by decide +kernel
theorem d_M_crossingOf_12 : decode m_M_crossingOf.2.1 12 = .ok (.invokestatic 105, 3) := by decide +kernel
theorem d_M_crossingOf_15 : decode m_M_crossingOf.2.1 15 = .ok (.ifCond .ne (5), 3) := by decide +kernel
theorem d_M_crossingOf_29 : decode m_M_crossingOf.2.1 29 = .ok (.if_icmp .ge (55), 3) := by decide +kernel
theorem d_M_crossingOf_34 : decode m_M_crossingOf.2.1 34 = .ok (.if_icmp .le (50), 3) := by decide +kernel
theorem d_M_crossingOf_41 : decode m_M_crossingOf.2.1 41 = .ok (.invokevirtual 123, 3) := by decide +kernel
theorem d_M_crossingOf_44 : decode m_M_crossingOf.2.1 44 = .ok (.ifCond .eq (31), 3) := by decide +kernel
theorem d_M_crossingOf_81 : decode m_M_crossingOf.2.1 81 = .ok (.goto (-56), 3) := by decide +kernel
theorem d_M_crossingOf_49 : decode m_M_crossingOf.2.1 49 = .ok (.if_icmp .ne (12), 3) := by decide +kernel
theorem d_M_crossingOf_64 : decode m_M_crossingOf.2.1 64 = .ok (.invokevirtual 130, 3) := by decide +kernel
theorem d_M_crossingOf_68 : decode m_M_crossingOf.2.1 68 = .ok (.if_icmp .ne (7), 3) := by decide +kernel
theorem d_M_crossingOf_72 : decode m_M_crossingOf.2.1 72 = .ok (.goto (4), 3) := by decide +kernel
theorem d_M_crossingOf_55 : decode m_M_crossingOf.2.1 55 = .ok (.invokevirtual 127, 3) := by decide +kernel
theorem d_M_crossingOf_58 : decode m_M_crossingOf.2.1 58 = .ok (.goto (9), 3) := by decide +kernel
theorem d_M_crossingOf_85 : decode m_M_crossingOf.2.1 85 = .ok (.ifCond .ne (11), 3) := by decide +kernel
theorem d_M_crossingOf_98 : decode m_M_crossingOf.2.1 98 = .ok (.if_icmp .ne (11), 3) := by decide +kernel
theorem d_M_crossingOf_110 : decode m_M_crossingOf.2.1 110 = .ok (.ireturn, 1) := by decide +kernel
theorem d_M_crossingOf_103 : decode m_M_crossingOf.2.1 103 = .ok (.invokevirtual 113, 3) := by decide +kernel
theorem d_M_crossingOf_106 : decode m_M_crossingOf.2.1 106 = .ok (.goto (4), 3) := by decide +kernel
theorem d_M_crossingOf_90 : decode m_M_crossingOf.2.1 90 = .ok (.invokevirtual 109, 3) := by decide +kernel
theorem d_M_crossingOf_93 : decode m_M_crossingOf.2.1 93 = .ok (.goto (17), 3) := by decide +kernel
def lp_M_crossingOf_25 (x1 : Int32) (x2 : Int32)  (K0 : hs → Int32 → Int32 → Option (Int32 × hs)) : Nat → hs → Int32 → Int32 → Option (Int32 × hs)
  | 0, _, _, _ => none
  | n + 1, S, x3, x4 => (if (40 : Int32) ≤ x4 then K0 S x3 x4 else (if x2 ≤ (1 : Int32) then K0 S x3 x4 else bd (f_M_isCourse  S x4) fun r11 S12 => (if r11 = 0 then lp_M_crossingOf_25 x1 x2 K0 n S12 (x3 + (0 : Int32)) (x4 + (1 : Int32)) else (if x2 = (2 : Int32) then bd (f_M_beginOf  S12 x4) fun r20 S21 => (if r20 = x1 then lp_M_crossingOf_25 x1 x2 K0 n S21 (x3 + (1 : Int32)) (x4 + (1 : Int32)) else lp_M_crossingOf_25 x1 x2 K0 n S21 (x3 + (0 : Int32)) (x4 + (1 : Int32))) else bd (f_M_endOf  S12 x4) fun r16 S17 => (if r16 = x1 then lp_M_crossingOf_25 x1 x2 K0 n S17 (x3 + (1 : Int32)) (x4 + (1 : Int32)) else lp_M_crossingOf_25 x1 x2 K0 n S17 (x3 + (0 : Int32)) (x4 + (1 : Int32)))))))
def f_M_crossingOf  (S : hs) (x1 : Int32) (x2 : Int32) : Option (Int32 × hs) := bd (f_M_is  S x1 (1 : Int32)) fun r1 S2 => (if r1 = 0 then some ((-1 : Int32), S2) else bd (f_M_in  S2 x2 (0 : Int32) (3 : Int32)) fun r5 S6 => (if r5 = 0 then some ((-1 : Int32), S6) else lp_M_crossingOf_25 x1 x2 (fun (S24 : hs) (y25 : Int32) (y26 : Int32) => (if x2 = 0 then bd (f_M_xOf  S24 x1) fun r32 S33 => some (r32, S33) else (if x2 = (1 : Int32) then bd (f_M_yOf  S24 x1) fun r29 S30 => some (r29, S30) else some (y25, S24)))) 1000 S6 (0 : Int32) (0 : Int32)))
theorem lo_M_crossingOf_25 (w : Wd) (d : Nat) (c : cx) {n0 z0 : Nat} {z : Int32 × hs}  {K0 : hs → Int32 → Int32 → Option (Int32 × hs)} (x1 : Int32) (x2 : Int32)   (hK0 : ∀ (S : hs) (x3 : Int32) (x4 : Int32), K0 S x3 x4 = some z → J w (d + 3) m_M_crossingOf (n0, z0, some (.int z.1), mk c z.2) 84 [some (.ref 191), some (.int x1), some (.int x2), some (.int x3), none] [] (mk c S)) :
    ∀ (n : Nat) (S : hs) (x3 : Int32) (x4 : Int32), lp_M_crossingOf_25 x1 x2 K0 n S x3 x4 = some z → J w (d + 3) m_M_crossingOf (n0, z0, some (.int z.1), mk c z.2) 25 [some (.ref 191), some (.int x1), some (.int x2), some (.int x3), some (.int x4)] [] (mk c S) := by
  intro n
  induction n with
  | zero => intro S x3 x4 H; cases H
  | succ n ih =>
    intro S x3 x4 H
    rw [lp_M_crossingOf_25] at H
    refine J.run b_M_crossingOf_25_2 k_M_crossingOf_25_2 rfl (show J w (d + 3) m_M_crossingOf (n0, z0, some (.int z.1), mk c z.2) 29 [some (.ref 191), some (.int x1), some (.int x2), some (.int x3), some (.int x4)] [.int (40 : Int32), .int x4] (mk c S) from ?_)
    refine J.cge (tgt := 84) d_M_crossingOf_29 rfl (fun q9 => ?_) (fun q9 => ?_)
    · have H := ite_t H q9
      refine J.mask [true, true, true, true, false] ?_
      exact hK0 S x3 x4 H
    · have H := ite_f H q9
      refine J.run b_M_crossingOf_32_2 k_M_crossingOf_32_2 rfl (show J w (d + 3) m_M_crossingOf (n0, z0, some (.int z.1), mk c z.2) 34 [some (.ref 191), some (.int x1), some (.int x2), some (.int x3), some (.int x4)] [.int (1 : Int32), .int x2] (mk c S) from ?_)
      refine J.cle (tgt := 84) d_M_crossingOf_34 rfl (fun q10 => ?_) (fun q10 => ?_)
      · have H := ite_t H q10
        refine J.mask [true, true, true, true, false] ?_
        exact hK0 S x3 x4 H
      · have H := ite_f H q10
        refine J.run b_M_crossingOf_37_3 k_M_crossingOf_37_3 rfl (show J w (d + 3) m_M_crossingOf (n0, z0, some (.int z.1), mk c z.2) 41 [some (.ref 191), some (.int x1), some (.int x2), some (.int x3), some (.int x4)] [.int x4, .ref 191, .int x3] (mk c S) from ?_)
        obtain ⟨r11, S12, h13, H⟩ := bd_e H
        refine J.callV (y := m_M_isCourse) (av := [.int x4]) (rest := [.int x3]) (q := 191) l_M_123 d_M_crossingOf_41 (isC_st rfl rfl) (c_M_isCourse w (d + 0) c  S x4 h13) rfl (Nat.le_of_ble_eq_true rfl) ⟨Nat.le_refl _, Nat.le_refl _⟩ (show J w (d + 3) m_M_crossingOf (n0, z0, some (.int z.1), mk c z.2) 44 [some (.ref 191), some (.int x1), some (.int x2), some (.int x3), some (.int x4)] [.int r11, .int x3] (mk c S12) from ?_)
        refine J.zeq (tgt := 75) d_M_crossingOf_44 rfl (fun q14 => ?_) (fun q14 => ?_)
        · have H := ite_t H q14
          refine J.run b_M_crossingOf_75_4 k_M_crossingOf_75_4 rfl (show J w (d + 3) m_M_crossingOf (n0, z0, some (.int z.1), mk c z.2) 81 [some (.ref 191), some (.int x1), some (.int x2), some (.int (x3 + (0 : Int32))), some (.int (x4 + (1 : Int32)))] [] (mk c S12) from ?_)
          refine J.goto (tgt := 25) d_M_crossingOf_81 rfl ?_
          refine J.mask [true, true, true, true, true] ?_
          exact ih S12 (x3 + (0 : Int32)) (x4 + (1 : Int32)) H
        · have H := ite_f H q14
          refine J.run b_M_crossingOf_47_2 k_M_crossingOf_47_2 rfl (show J w (d + 3) m_M_crossingOf (n0, z0, some (.int z.1), mk c z.2) 49 [some (.ref 191), some (.int x1), some (.int x2), some (.int x3), some (.int x4)] [.int (2 : Int32), .int x2, .int x3] (mk c S12) from ?_)
          refine J.cne (tgt := 61) d_M_crossingOf_49 rfl (fun q15 => ?_) (fun q15 => ?_)
          · have H := ite_f H q15
            refine J.run b_M_crossingOf_61_2 k_M_crossingOf_61_2 rfl (show J w (d + 3) m_M_crossingOf (n0, z0, some (.int z.1), mk c z.2) 64 [some (.ref 191), some (.int x1), some (.int x2), some (.int x3), some (.int x4)] [.int x4, .ref 191, .int x3] (mk c S12) from ?_)
            obtain ⟨r16, S17, h18, H⟩ := bd_e H
            refine J.callV (y := m_M_endOf) (av := [.int x4]) (rest := [.int x3]) (q := 191) l_M_130 d_M_crossingOf_64 (isC_st rfl rfl) (c_M_endOf w (d + 0) c  S12 x4 h18) rfl (Nat.le_of_ble_eq_true rfl) ⟨Nat.le_refl _, Nat.le_refl _⟩ (show J w (d + 3) m_M_crossingOf (n0, z0, some (.int z.1), mk c z.2) 67 [some (.ref 191), some (.int x1), some (.int x2), some (.int x3), some (.int x4)] [.int r16, .int x3] (mk c S17) from ?_)
            refine J.run b_M_crossingOf_67_1 k_M_crossingOf_67_1 rfl (show J w (d + 3) m_M_crossingOf (n0, z0, some (.int z.1), mk c z.2) 68 [some (.ref 191), some (.int x1), some (.int x2), some (.int x3), some (.int x4)] [.int x1, .int r16, .int x3] (mk c S17) from ?_)
            refine J.cne (tgt := 75) d_M_crossingOf_68 rfl (fun q19 => ?_) (fun q19 => ?_)
            · have H := ite_f H q19
              refine J.run b_M_crossingOf_75_4 k_M_crossingOf_75_4 rfl (show J w (d + 3) m_M_crossingOf (n0, z0, some (.int z.1), mk c z.2) 81 [some (.ref 191), some (.int x1), some (.int x2), some (.int (x3 + (0 : Int32))), some (.int (x4 + (1 : Int32)))] [] (mk c S17) from ?_)
              refine J.goto (tgt := 25) d_M_crossingOf_81 rfl ?_
              refine J.mask [true, true, true, true, true] ?_
              exact ih S17 (x3 + (0 : Int32)) (x4 + (1 : Int32)) H
            · have H := ite_t H q19
              refine J.run b_M_crossingOf_71_1 k_M_crossingOf_71_1 rfl (show J w (d + 3) m_M_crossingOf (n0, z0, some (.int z.1), mk c z.2) 72 [some (.ref 191), some (.int x1), some (.int x2), some (.int x3), some (.int x4)] [.int (1 : Int32), .int x3] (mk c S17) from ?_)
              refine J.goto (tgt := 76) d_M_crossingOf_72 rfl ?_
              refine J.run b_M_crossingOf_76_3 k_M_crossingOf_76_3 rfl (show J w (d + 3) m_M_crossingOf (n0, z0, some (.int z.1), mk c z.2) 81 [some (.ref 191), some (.int x1), some (.int x2), some (.int (x3 + (1 : Int32))), some (.int (x4 + (1 : Int32)))] [] (mk c S17) from ?_)
              refine J.goto (tgt := 25) d_M_crossingOf_81 rfl ?_
              refine J.mask [true, true, true, true, true] ?_
              exact ih S17 (x3 + (1 : Int32)) (x4 + (1 : Int32)) H
          · have H := ite_t H q15
            refine J.run b_M_crossingOf_52_2 k_M_crossingOf_52_2 rfl (show J w (d + 3) m_M_crossingOf (n0, z0, some (.int z.1), mk c z.2) 55 [some (.ref 191), some (.int x1), some (.int x2), some (.int x3), some (.int x4)] [.int x4, .ref 191, .int x3] (mk c S12) from ?_)
            obtain ⟨r20, S21, h22, H⟩ := bd_e H
            refine J.callV (y := m_M_beginOf) (av := [.int x4]) (rest := [.int x3]) (q := 191) l_M_127 d_M_crossingOf_55 (isC_st rfl rfl) (c_M_beginOf w (d + 0) c  S12 x4 h22) rfl (Nat.le_of_ble_eq_true rfl) ⟨Nat.le_refl _, Nat.le_refl _⟩ (show J w (d + 3) m_M_crossingOf (n0, z0, some (.int z.1), mk c z.2) 58 [some (.ref 191), some (.int x1), some (.int x2), some (.int x3), some (.int x4)] [.int r20, .int x3] (mk c S21) from ?_)
            refine J.goto (tgt := 67) d_M_crossingOf_58 rfl ?_
            refine J.run b_M_crossingOf_67_1 k_M_crossingOf_67_1 rfl (show J w (d + 3) m_M_crossingOf (n0, z0, some (.int z.1), mk c z.2) 68 [some (.ref 191), some (.int x1), some (.int x2), some (.int x3), some (.int x4)] [.int x1, .int r20, .int x3] (mk c S21) from ?_)
            refine J.cne (tgt := 75) d_M_crossingOf_68 rfl (fun q23 => ?_) (fun q23 => ?_)
            · have H := ite_f H q23
              refine J.run b_M_crossingOf_75_4 k_M_crossingOf_75_4 rfl (show J w (d + 3) m_M_crossingOf (n0, z0, some (.int z.1), mk c z.2) 81 [some (.ref 191), some (.int x1), some (.int x2), some (.int (x3 + (0 : Int32))), some (.int (x4 + (1 : Int32)))] [] (mk c S21) from ?_)
              refine J.goto (tgt := 25) d_M_crossingOf_81 rfl ?_
              refine J.mask [true, true, true, true, true] ?_
              exact ih S21 (x3 + (0 : Int32)) (x4 + (1 : Int32)) H
            · have H := ite_t H q23
              refine J.run b_M_crossingOf_71_1 k_M_crossingOf_71_1 rfl (show J w (d + 3) m_M_crossingOf (n0, z0, some (.int z.1), mk c z.2) 72 [some (.ref 191), some (.int x1), some (.int x2), some (.int x3), some (.int x4)] [.int (1 : Int32), .int x3] (mk c S21) from ?_)
              refine J.goto (tgt := 76) d_M_crossingOf_72 rfl ?_
              refine J.run b_M_crossingOf_76_3 k_M_crossingOf_76_3 rfl (show J w (d + 3) m_M_crossingOf (n0, z0, some (.int z.1), mk c z.2) 81 [some (.ref 191), some (.int x1), some (.int x2), some (.int (x3 + (1 : Int32))), some (.int (x4 + (1 : Int32)))] [] (mk c S21) from ?_)
              refine J.goto (tgt := 25) d_M_crossingOf_81 rfl ?_
              refine J.mask [true, true, true, true, true] ?_
              exact ih S21 (x3 + (1 : Int32)) (x4 + (1 : Int32)) H
theorem c_M_crossingOf (w : Wd) (d : Nat) (c : cx)   (S : hs) (x1 : Int32) (x2 : Int32)  {z : Int32 × hs} (H : f_M_crossingOf S x1 x2 = some z) : Cl w (d + 3) m_M_crossingOf [.ref 191, .int x1, .int x2] (mk c S) (some (.int z.1)) (mk c z.2) := by
  refine Cl.of (Nat.le_refl _) (Nat.le_refl _) (by decide +kernel) (Nat.le_of_ble_eq_true rfl) ?_
  unfold f_M_crossingOf at H
  generalize hN (mk c S) = n0
  generalize hZ (mk c S) = z0
  show J w (d + 3) m_M_crossingOf (n0, z0, some (.int z.1), mk c z.2) 0 [some (.ref 191), some (.int x1), some (.int x2), none, none] [] (mk c S)
  refine J.run b_M_crossingOf_0_3 k_M_crossingOf_0_3 rfl (show J w (d + 3) m_M_crossingOf (n0, z0, some (.int z.1), mk c z.2) 3 [some (.ref 191), some (.int x1), some (.int x2), none, none] [.int (1 : Int32), .int x1, .ref 191] (mk c S) from ?_)
  obtain ⟨r1, S2, h3, H⟩ := bd_e H
  refine J.callV (y := m_M_is) (av := [.int x1, .int (1 : Int32)]) (rest := []) (q := 191) l_M_120 d_M_crossingOf_3 (isC_st rfl rfl) (c_M_is w (d + 0) c  S x1 (1 : Int32) h3) rfl (Nat.le_of_ble_eq_true rfl) ⟨Nat.le_refl _, Nat.le_refl _⟩ (show J w (d + 3) m_M_crossingOf (n0, z0, some (.int z.1), mk c z.2) 6 [some (.ref 191), some (.int x1), some (.int x2), none, none] [.int r1] (mk c S2) from ?_)
  refine J.zeq (tgt := 18) d_M_crossingOf_6 rfl (fun q4 => ?_) (fun q4 => ?_)
  · have H := ite_t H q4
    refine J.run b_M_crossingOf_18_1 k_M_crossingOf_18_1 rfl (show J w (d + 3) m_M_crossingOf (n0, z0, some (.int z.1), mk c z.2) 19 [some (.ref 191), some (.int x1), some (.int x2), none, none] [.int (-1 : Int32)] (mk c S2) from ?_)
    obtain rfl := some_e H
    exact J.iret d_M_crossingOf_19 rfl rfl
  · have H := ite_f H q4
    refine J.run b_M_crossingOf_9_3 k_M_crossingOf_9_3 rfl (show J w (d + 3) m_M_crossingOf (n0, z0, some (.int z.1), mk c z.2) 12 [some (.ref 191), some (.int x1), some (.int x2), none, none] [.int (3 : Int32), .int (0 : Int32), .int x2] (mk c S2) from ?_)
    obtain ⟨r5, S6, h7, H⟩ := bd_e H
    refine J.callS (y := m_M_in) (av := [.int x2, .int (0 : Int32), .int (3 : Int32)]) (rest := []) l_M_105 d_M_crossingOf_12 (c_M_in w (d + 1) c  S2 x2 (0 : Int32) (3 : Int32) h7) rfl (Nat.le_of_ble_eq_true rfl) ⟨Nat.le_refl _, Nat.le_refl _⟩ (show J w (d + 3) m_M_crossingOf (n0, z0, some (.int z.1), mk c z.2) 15 [some (.ref 191), some (.int x1), some (.int x2), none, none] [.int r5] (mk c S6) from ?_)
    refine J.zne (tgt := 20) d_M_crossingOf_15 rfl (fun q8 => ?_) (fun q8 => ?_)
    · have H := ite_f H q8
      refine J.run b_M_crossingOf_20_4 k_M_crossingOf_20_4 rfl (show J w (d + 3) m_M_crossingOf (n0, z0, some (.int z.1), mk c z.2) 25 [some (.ref 191), some (.int x1), some (.int x2), some (.int (0 : Int32)), some (.int (0 : Int32))] [] (mk c S6) from ?_)
      refine J.mask [true, true, true, true, true] ?_
      refine lo_M_crossingOf_25 w d c x1 x2 ?_ 1000 S6 (0 : Int32) (0 : Int32) H
      · intro S24 y25 y26 H
        try dsimp only at H
        refine J.run b_M_crossingOf_84_1 k_M_crossingOf_84_1 rfl (show J w (d + 3) m_M_crossingOf (n0, z0, some (.int z.1), mk c z.2) 85 [some (.ref 191), some (.int x1), some (.int x2), some (.int y25), none] [.int x2] (mk c S24) from ?_)
        refine J.zne (tgt := 96) d_M_crossingOf_85 rfl (fun q27 => ?_) (fun q27 => ?_)
        · have H := ite_f H q27
          refine J.run b_M_crossingOf_96_2 k_M_crossingOf_96_2 rfl (show J w (d + 3) m_M_crossingOf (n0, z0, some (.int z.1), mk c z.2) 98 [some (.ref 191), some (.int x1), some (.int x2), some (.int y25), none] [.int (1 : Int32), .int x2] (mk c S24) from ?_)
          refine J.cne (tgt := 109) d_M_crossingOf_98 rfl (fun q28 => ?_) (fun q28 => ?_)
          · have H := ite_f H q28
            refine J.run b_M_crossingOf_109_1 k_M_crossingOf_109_1 rfl (show J w (d + 3) m_M_crossingOf (n0, z0, some (.int z.1), mk c z.2) 110 [some (.ref 191), some (.int x1), some (.int x2), some (.int y25), none] [.int y25] (mk c S24) from ?_)
            obtain rfl := some_e H
            exact J.iret d_M_crossingOf_110 rfl rfl
          · have H := ite_t H q28
            refine J.run b_M_crossingOf_101_2 k_M_crossingOf_101_2 rfl (show J w (d + 3) m_M_crossingOf (n0, z0, some (.int z.1), mk c z.2) 103 [some (.ref 191), some (.int x1), some (.int x2), some (.int y25), none] [.int x1, .ref 191] (mk c S24) from ?_)
            obtain ⟨r29, S30, h31, H⟩ := bd_e H
            refine J.callV (y := m_M_yOf) (av := [.int x1]) (rest := []) (q := 191) l_M_113 d_M_crossingOf_103 (isC_st rfl rfl) (c_M_yOf w (d + 1) c  S24 x1 h31) rfl (Nat.le_of_ble_eq_true rfl) ⟨Nat.le_refl _, Nat.le_refl _⟩ (show J w (d + 3) m_M_crossingOf (n0, z0, some (.int z.1), mk c z.2) 106 [some (.ref 191), some (.int x1), some (.int x2), some (.int y25), none] [.int r29] (mk c S30) from ?_)
            refine J.goto (tgt := 110) d_M_crossingOf_106 rfl ?_
            obtain rfl := some_e H
            exact J.iret d_M_crossingOf_110 rfl rfl
        · have H := ite_t H q27
          refine J.run b_M_crossingOf_88_2 k_M_crossingOf_88_2 rfl (show J w (d + 3) m_M_crossingOf (n0, z0, some (.int z.1), mk c z.2) 90 [some (.ref 191), some (.int x1), some (.int x2), some (.int y25), none] [.int x1, .ref 191] (mk c S24) from ?_)
          obtain ⟨r32, S33, h34, H⟩ := bd_e H
          refine J.callV (y := m_M_xOf) (av := [.int x1]) (rest := []) (q := 191) l_M_109 d_M_crossingOf_90 (isC_st rfl rfl) (c_M_xOf w (d + 1) c  S24 x1 h34) rfl (Nat.le_of_ble_eq_true rfl) ⟨Nat.le_refl _, Nat.le_refl _⟩ (show J w (d + 3) m_M_crossingOf (n0, z0, some (.int z.1), mk c z.2) 93 [some (.ref 191), some (.int x1), some (.int x2), some (.int y25), none] [.int r32] (mk c S33) from ?_)
          refine J.goto (tgt := 110) d_M_crossingOf_93 rfl ?_
          obtain rfl := some_e H
          exact J.iret d_M_crossingOf_110 rfl rfl
    · have H := ite_t H q8
      refine J.run b_M_crossingOf_18_1 k_M_crossingOf_18_1 rfl (show J w (d + 3) m_M_crossingOf (n0, z0, some (.int z.1), mk c z.2) 19 [some (.ref 191), some (.int x1), some (.int x2), none, none] [.int (-1 : Int32)] (mk c S6) from ?_)
      obtain rfl := some_e H
      exact J.iret d_M_crossingOf_19 rfl rfl
def b_M_street_0_3 : List Ins := [(.aload_n 0, 0, 0, 0), (.iload_n 1, 0, 0, 0), (.iconst (1), 0, 0, 0)]
theorem k_M_street_0_3 : bok m_M_street 0 b_M_street_0_3 = true := by decide +kernel
def b_M_street_33_1 : List Ins := [(.iconst (-1), 0, 0, 0)]
theorem k_M_street_33_1 : bok m_M_street 33 b_M_street_33_1 = true := by decide +kernel
def b_M_street_9_3 : List Ins := [(.aload_n 0, 0, 0, 0), (.iload_n 2, 0, 0, 0), (.iconst (1), 0, 0, 0)]
theorem k_M_street_9_3 : bok m_M_street 9 b_M_street_9_3 = true := by decide +kernel
def b_M_street_18_2 : List Ins := [(.iload_n 1, 0, 0, 0), (.iload_n 2, 0, 0, 0)]
theorem k_M_street_18_2 : bok m_M_street 18 b_M_street_18_2 = true := by decide +kernel
def b_M_street_23_3 : List Ins := [(.iload_n 3, 0, 0, 0), (.iconst (1), 0, 0, 0), (.bipush (9), 0, 0, 0)]
theorem k_M_street_23_3 : bok m_M_street 23 b_M_street_23_3 = true := by decide +kernel
def b_M_street_35_7 : List Ins := [(.aload_n 0, 0, 0, 0), (.getfield 9, 11, 0, 2), (.iconst (2), 0, 0, 0), (.iaload, 0, 0, 0), (.istore 5, 0, 0, 0), (.iload 5, 0, 0, 0), (.bipush (20), 0, 0, 0)]
theorem k_M_street_35_7 : bok m_M_street 35 b_M_street_35_7 = true := by decide +kernel
def b_M_street_53_33 : List Ins := [(.bipush (29), 0, 0, 0), (.iconst (5), 0, 0, 0), (.iload 5, 0, 0, 0), (.imul, 0, 0, 0), (.iadd, 0, 0, 0), (.istore 6, 0, 0, 0), (.aload_n 0, 0, 0, 0), (.getfield 9, 11, 0, 2), (.iload 6, 0, 0, 0), (.iconst (0), 0, 0, 0), (.iadd, 0, 0, 0), (.iload_n 1, 0, 0, 0), (.iastore, 0, 0, 0), (.aload_n 0, 0, 0, 0), (.getfield 9, 11, 0, 2), (.iload 6, 0, 0, 0), (.iconst (1), 0, 0, 0), (.iadd, 0, 0, 0), (.iload_n 2, 0, 0, 0), (.iastore, 0, 0, 0), (.aload_n 0, 0, 0, 0), (.getfield 9, 11, 0, 2), (.iload 6, 0, 0, 0), (.iconst (2), 0, 0, 0), (.iadd, 0, 0, 0), (.iload_n 3, 0, 0, 0), (.iastore, 0, 0, 0), (.aload_n 0, 0, 0, 0), (.getfield 9, 11, 0, 2), (.iload 6, 0, 0, 0), (.iconst (3), 0, 0, 0), (.iadd, 0, 0, 0), (.iload 4, 0, 0, 0)]
theorem k_M_street_53_33 : bok m_M_street 53 b_M_street_53_33 = true := by decide +kernel
def b_M_street_109_18 : List Ins := [(.iconst (0), 0, 0, 0), (.iastore, 0, 0, 0), (.aload_n 0, 0, 0, 0), (.getfield 9, 11, 0, 2), (.iload 6, 0, 0, 0), (.iconst (4), 0, 0, 0), (.iadd, 0, 0, 0), (.iconst (0), 0, 0, 0), (.iastore, 0, 0, 0), (.aload_n 0, 0, 0, 0), (.getfield 9, 11, 0, 2), (.iconst (2), 0, 0, 0), (.dup2, 0, 0, 0), (.iaload, 0, 0, 0), (.iconst (1), 0, 0, 0), (.iadd, 0, 0, 0), (.iastore, 0, 0, 0), (.iload 5, 0, 0, 0)]
theorem k_M_street_109_18 : bok m_M_street 109 b_M_street_109_18 = true := by decide +kernel
def b_M_street_105_1 : List Ins := [(.iconst (1), 0, 0, 0)]
theorem k_M_street_105_1 : bok m_M_street 105 b_M_street_105_1 = true := by decide +kernel
def b_M_street_110_17 : List Ins := [(.iastore, 0, 0, 0), (.aload_n 0, 0, 0, 0), (.getfield 9, 11, 0, 2), (.iload 6, 0, 0, 0), (.iconst (4), 0, 0, 0), (.iadd, 0, 0, 0), (.iconst (0), 0, 0, 0), (.iastore, 0, 0, 0), (.aload_n 0, 0, 0, 0), (.getfield 9, 11, 0, 2), (.iconst (2), 0, 0, 0), (.dup2, 0, 0, 0), (.iaload, 0, 0, 0), (.iconst (1), 0, 0, 0), (.iadd, 0, 0, 0), (.iastore, 0, 0, 0), (.iload 5, 0, 0, 0)]
theorem k_M_street_110_17 : bok m_M_street 110 b_M_street_110_17 = true := by decide +kernel
def b_M_street_50_1 : List Ins := [(.bipush (-2), 0, 0, 0)]
theorem k_M_street_50_1 : bok m_M_street 50 b_M_street_50_1 = true := by decide +kernel
theorem d_M_street_3 : decode m_M_street.2.1 3 = .ok (.invokevirtual 120, 3) := by decide +kernel
theorem d_M_street_6 : decode m_M_street.2.1 6 = .ok (.ifCond .eq (27), 3) := by decide +kernel
theorem d_M_street_34 : decode m_M_street.2.1 34 = .ok (.ireturn, 1) := by decide +kernel
theorem d_M_street_12 : decode m_M_street.2.1 12 = .ok (.invokevirtual 120, 3) := by decide +kernel
theorem d_M_street_15 : decode m_M_street.2.1 15 = .ok (.ifCond .eq (18), 3) := by decide +kernel
theorem d_M_street_20 : decode m_M_street.2.1 20 = .ok (.if_icmp .eq (13), 3) := by decide +kernel
theorem d_M_street_27 : decode m_M_street.2.1 27 = .ok (.invokestatic 105, 3) := by decide +kernel
theorem d_M_street_30 : decode m_M_street.2.1 30 = .ok (.ifCond .ne (5), 3) := by decide +kernel
theorem d_M_street_47 : decode m_M_street.2.1 47 = .ok (.if_icmp .ne (6), 3) := by decide +kernel
theorem d_M_street_102 : decode m_M_street.2.1 102 = .ok (.ifCond .eq (7), 3) := by decide +kernel
theorem d_M_street_133 : decode m_M_street.2.1 133 = .ok (.ireturn, 1) := by decide +kernel
theorem d_M_street_106 : decode m_M_street.2.1 106 = .ok (.goto (4), 3) := by decide +kernel
theorem d_M_street_52 : decode m_M_street.2.1 52 = .ok (.ireturn, 1) := by decide +kernel
def f_M_street  (S : hs) (x1 : Int32) (x2 : Int32) (x3 : Int32) (x4 : Int32) : Option (Int32 × hs) := bd (f_M_is  S x1 (1 : Int32)) fun r1 S2 => (if r1 = 0 then some ((-1 : Int32), S2) else bd (f_M_is  S2 x2 (1 : Int32)) fun r5 S6 => (if r5 = 0 then some ((-1 : Int32), S6) else (if x1 = x2 then some ((-1 : Int32), S6) else bd (f_M_in  S6 x3 (1 : Int32) (9 : Int32)) fun r10 S11 => (if r10 = 0 then some ((-1 : Int32), S11) else (if (gI S11 192 2) = (20 : Int32) then some ((-2 : Int32), S11) else ck (inb (((29 : Int32) + ((5 : Int32) * (gI S11 192 2))) + (0 : Int32)) 358) (ck (inb (((29 : Int32) + ((5 : Int32) * (gI S11 192 2))) + (1 : Int32)) 358) (ck (inb (((29 : Int32) + ((5 : Int32) * (gI S11 192 2))) + (2 : Int32)) 358) ((if x4 = 0 then ck (inb (((29 : Int32) + ((5 : Int32) * (gI S11 192 2))) + (3 : Int32)) 358) (ck (inb (((29 : Int32) + ((5 : Int32) * (gI S11 192 2))) + (4 : Int32)) 358) (some ((gI S11 192 2), (uI (uI (uI (uI (uI (uI S11 192 ((((29 : Int32) + ((5 : Int32) * (gI S11 192 2))) + (0 : Int32))).toNatClampNeg x1) 192 ((((29 : Int32) + ((5 : Int32) * (gI S11 192 2))) + (1 : Int32))).toNatClampNeg x2) 192 ((((29 : Int32) + ((5 : Int32) * (gI S11 192 2))) + (2 : Int32))).toNatClampNeg x3) 192 ((((29 : Int32) + ((5 : Int32) * (gI S11 192 2))) + (3 : Int32))).toNatClampNeg (0 : Int32)) 192 ((((29 : Int32) + ((5 : Int32) * (gI S11 192 2))) + (4 : Int32))).toNatClampNeg (0 : Int32)) 192 2 ((gI (uI (uI (uI (uI (uI S11 192 ((((29 : Int32) + ((5 : Int32) * (gI S11 192 2))) + (0 : Int32))).toNatClampNeg x1) 192 ((((29 : Int32) + ((5 : Int32) * (gI S11 192 2))) + (1 : Int32))).toNatClampNeg x2) 192 ((((29 : Int32) + ((5 : Int32) * (gI S11 192 2))) + (2 : Int32))).toNatClampNeg x3) 192 ((((29 : Int32) + ((5 : Int32) * (gI S11 192 2))) + (3 : Int32))).toNatClampNeg (0 : Int32)) 192 ((((29 : Int32) + ((5 : Int32) * (gI S11 192 2))) + (4 : Int32))).toNatClampNeg (0 : Int32)) 192 2) + (1 : Int32)))))) else ck (inb (((29 : Int32) + ((5 : Int32) * (gI S11 192 2))) + (3 : Int32)) 358) (ck (inb (((29 : Int32) + ((5 : Int32) * (gI S11 192 2))) + (4 : Int32)) 358) (some ((gI S11 192 2), (uI (uI (uI (uI (uI (uI S11 192 ((((29 : Int32) + ((5 : Int32) * (gI S11 192 2))) + (0 : Int32))).toNatClampNeg x1) 192 ((((29 : Int32) + ((5 : Int32) * (gI S11 192 2))) + (1 : Int32))).toNatClampNeg x2) 192 ((((29 : Int32) + ((5 : Int32) * (gI S11 192 2))) + (2 : Int32))).toNatClampNeg x3) 192 ((((29 : Int32) + ((5 : Int32) * (gI S11 192 2))) + (3 : Int32))).toNatClampNeg (1 : Int32)) 192 ((((29 : Int32) + ((5 : Int32) * (gI S11 192 2))) + (4 : Int32))).toNatClampNeg (0 : Int32)) 192 2 ((gI (uI (uI (uI (uI (uI S11 192 ((((29 : Int32) + ((5 : Int32) * (gI S11 192 2))) + (0 : Int32))).toNatClampNeg x1) 192 ((((29 : Int32) + ((5 : Int32) * (gI S11 192 2))) + (1 : Int32))).toNatClampNeg x2) 192 ((((29 : Int32) + ((5 : Int32) * (gI S11 192 2))) + (2 : Int32))).toNatClampNeg x3) 192 ((((29 : Int32) + ((5 : Int32) * (gI S11 192 2))) + (3 : Int32))).toNatClampNeg (1 : Int32)) 192 ((((29 : Int32) + ((5 : Int32) * (gI S11 192 2))) + (4 : Int32))).toNatClampNeg (0 : Int32)) 192 2) + (1 : Int32)))))))))))))))
theorem c_M_street (w : Wd) (d : Nat) (c : cx)   (S : hs) (x1 : Int32) (x2 : Int32) (x3 : Int32) (x4 : Int32)  {z : Int32 × hs} (H : f_M_street S x1 x2 x3 x4 = some z) : Cl w (d + 3) m_M_street [.ref 191, .int x1, .int x2, .int x3, .int x4] (mk c S) (some (.int z.1)) (mk c z.2) := by
  refine Cl.of (Nat.le_refl _) (Nat.le_refl _) (by decide +kernel) (Nat.le_of_ble_eq_true rfl) ?_
  unfold f_M_street at H
  generalize hN (mk c S) = n0
  generalize hZ (mk c S) = z0
  show J w (d + 3) m_M_street (n0, z0, some (.int z.1), mk c z.2) 0 [some (.ref 191), some (.int x1), some (.int x2), some (.int x3), some (.int x4), none, none] [] (mk c S)
  refine J.run b_M_street_0_3 k_M_street_0_3 rfl (show J w (d + 3) m_M_street (n0, z0, some (.int z.1), mk c z.2) 3 [some (.ref 191), some (.int x1), some (.int x2), some (.int x3), some (.int x4), none, none] [.int (1 : Int32), .int x1, .ref 191] (mk c S) from ?_)
  obtain ⟨r1, S2, h3, H⟩ := bd_e H
  refine J.callV (y := m_M_is) (av := [.int x1, .int (1 : Int32)]) (rest := []) (q := 191) l_M_120 d_M_street_3 (isC_st rfl rfl) (c_M_is w (d + 0) c  S x1 (1 : Int32) h3) rfl (Nat.le_of_ble_eq_true rfl) ⟨Nat.le_refl _, Nat.le_refl _⟩ (show J w (d + 3) m_M_street (n0, z0, some (.int z.1), mk c z.2) 6 [some (.ref 191), some (.int x1), some (.int x2), some (.int x3), some (.int x4), none, none] [.int r1] (mk c S2) from ?_)
  refine J.zeq (tgt := 33) d_M_street_6 rfl (fun q4 => ?_) (fun q4 => ?_)
  · have H := ite_t H q4
    refine J.run b_M_street_33_1 k_M_street_33_1 rfl (show J w (d + 3) m_M_street (n0, z0, some (.int z.1), mk c z.2) 34 [some (.ref 191), some (.int x1), some (.int x2), some (.int x3), some (.int x4), none, none] [.int (-1 : Int32)] (mk c S2) from ?_)
    obtain rfl := some_e H
    exact J.iret d_M_street_34 rfl rfl
  · have H := ite_f H q4
    refine J.run b_M_street_9_3 k_M_street_9_3 rfl (show J w (d + 3) m_M_street (n0, z0, some (.int z.1), mk c z.2) 12 [some (.ref 191), some (.int x1), some (.int x2), some (.int x3), some (.int x4), none, none] [.int (1 : Int32), .int x2, .ref 191] (mk c S2) from ?_)
    obtain ⟨r5, S6, h7, H⟩ := bd_e H
    refine J.callV (y := m_M_is) (av := [.int x2, .int (1 : Int32)]) (rest := []) (q := 191) l_M_120 d_M_street_12 (isC_st rfl rfl) (c_M_is w (d + 0) c  S2 x2 (1 : Int32) h7) rfl (Nat.le_of_ble_eq_true rfl) ⟨Nat.le_refl _, Nat.le_refl _⟩ (show J w (d + 3) m_M_street (n0, z0, some (.int z.1), mk c z.2) 15 [some (.ref 191), some (.int x1), some (.int x2), some (.int x3), some (.int x4), none, none] [.int r5] (mk c S6) from ?_)
    refine J.zeq (tgt := 33) d_M_street_15 rfl (fun q8 => ?_) (fun q8 => ?_)
    · have H := ite_t H q8
      refine J.run b_M_street_33_1 k_M_street_33_1 rfl (show J w (d + 3) m_M_street (n0, z0, some (.int z.1), mk c z.2) 34 [some (.ref 191), some (.int x1), some (.int x2), some (.int x3), some (.int x4), none, none] [.int (-1 : Int32)] (mk c S6) from ?_)
      obtain rfl := some_e H
      exact J.iret d_M_street_34 rfl rfl
    · have H := ite_f H q8
      refine J.run b_M_street_18_2 k_M_street_18_2 rfl (show J w (d + 3) m_M_street (n0, z0, some (.int z.1), mk c z.2) 20 [some (.ref 191), some (.int x1), some (.int x2), some (.int x3), some (.int x4), none, none] [.int x2, .int x1] (mk c S6) from ?_)
      refine J.ceq (tgt := 33) d_M_street_20 rfl (fun q9 => ?_) (fun q9 => ?_)
      · have H := ite_t H q9
        refine J.run b_M_street_33_1 k_M_street_33_1 rfl (show J w (d + 3) m_M_street (n0, z0, some (.int z.1), mk c z.2) 34 [some (.ref 191), some (.int x1), some (.int x2), some (.int x3), some (.int x4), none, none] [.int (-1 : Int32)] (mk c S6) from ?_)
        obtain rfl := some_e H
        exact J.iret d_M_street_34 rfl rfl
      · have H := ite_f H q9
        refine J.run b_M_street_23_3 k_M_street_23_3 rfl (show J w (d + 3) m_M_street (n0, z0, some (.int z.1), mk c z.2) 27 [some (.ref 191), some (.int x1), some (.int x2), some (.int x3), some (.int x4), none, none] [.int (9 : Int32), .int (1 : Int32), .int x3] (mk c S6) from ?_)
        obtain ⟨r10, S11, h12, H⟩ := bd_e H
        refine J.callS (y := m_M_in) (av := [.int x3, .int (1 : Int32), .int (9 : Int32)]) (rest := []) l_M_105 d_M_street_27 (c_M_in w (d + 1) c  S6 x3 (1 : Int32) (9 : Int32) h12) rfl (Nat.le_of_ble_eq_true rfl) ⟨Nat.le_refl _, Nat.le_refl _⟩ (show J w (d + 3) m_M_street (n0, z0, some (.int z.1), mk c z.2) 30 [some (.ref 191), some (.int x1), some (.int x2), some (.int x3), some (.int x4), none, none] [.int r10] (mk c S11) from ?_)
        refine J.zne (tgt := 35) d_M_street_30 rfl (fun q13 => ?_) (fun q13 => ?_)
        · have H := ite_f H q13
          refine J.run b_M_street_35_7 k_M_street_35_7 rfl (And.intro (okO_st (S := S11) rfl) (And.intro (okA_st (S := S11) (n := 358) rfl rfl) (show J w (d + 3) m_M_street (n0, z0, some (.int z.1), mk c z.2) 47 [some (.ref 191), some (.int x1), some (.int x2), some (.int x3), some (.int x4), some (.int (gI S11 192 2)), none] [.int (20 : Int32), .int (gI S11 192 2)] (mk c S11) from ?_)))
          refine J.cne (tgt := 53) d_M_street_47 rfl (fun q14 => ?_) (fun q14 => ?_)
          · have H := ite_f H q14
            obtain ⟨g15, H⟩ := ck_e H
            obtain ⟨g16, H⟩ := ck_e H
            obtain ⟨g17, H⟩ := ck_e H
            refine J.run b_M_street_53_33 k_M_street_53_33 rfl (And.intro (okO_st (S := S11) rfl) (And.intro (okB_st (S := S11) (n := 358) rfl g15) (And.intro (okO_st (S := (uI S11 192 ((((29 : Int32) + ((5 : Int32) * (gI S11 192 2))) + (0 : Int32))).toNatClampNeg x1)) rfl) (And.intro (okB_st (S := (uI S11 192 ((((29 : Int32) + ((5 : Int32) * (gI S11 192 2))) + (0 : Int32))).toNatClampNeg x1)) (n := 358) rfl g16) (And.intro (okO_st (S := (uI (uI S11 192 ((((29 : Int32) + ((5 : Int32) * (gI S11 192 2))) + (0 : Int32))).toNatClampNeg x1) 192 ((((29 : Int32) + ((5 : Int32) * (gI S11 192 2))) + (1 : Int32))).toNatClampNeg x2)) rfl) (And.intro (okB_st (S := (uI (uI S11 192 ((((29 : Int32) + ((5 : Int32) * (gI S11 192 2))) + (0 : Int32))).toNatClampNeg x1) 192 ((((29 : Int32) + ((5 : Int32) * (gI S11 192 2))) + (1 : Int32))).toNatClampNeg x2)) (n := 358) rfl g17) (And.intro (okO_st (S := (uI (uI (uI S11 192 ((((29 : Int32) + ((5 : Int32) * (gI S11 192 2))) + (0 : Int32))).toNatClampNeg x1) 192 ((((29 : Int32) + ((5 : Int32) * (gI S11 192 2))) + (1 : Int32))).toNatClampNeg x2) 192 ((((29 : Int32) + ((5 : Int32) * (gI S11 192 2))) + (2 : Int32))).toNatClampNeg x3)) rfl) (show J w (d + 3) m_M_street (n0, z0, some (.int z.1), mk c z.2) 102 [some (.ref 191), some (.int x1), some (.int x2), some (.int x3), some (.int x4), some (.int (gI S11 192 2)), some (.int ((29 : Int32) + ((5 : Int32) * (gI S11 192 2))))] [.int x4, .int (((29 : Int32) + ((5 : Int32) * (gI S11 192 2))) + (3 : Int32)), .ref 192] (mk c (uI (uI (uI S11 192 ((((29 : Int32) + ((5 : Int32) * (gI S11 192 2))) + (0 : Int32))).toNatClampNeg x1) 192 ((((29 : Int32) + ((5 : Int32) * (gI S11 192 2))) + (1 : Int32))).toNatClampNeg x2) 192 ((((29 : Int32) + ((5 : Int32) * (gI S11 192 2))) + (2 : Int32))).toNatClampNeg x3)) from ?_))))))))
            refine J.zeq (tgt := 109) d_M_street_102 rfl (fun q18 => ?_) (fun q18 => ?_)
            · have H := ite_t H q18
              obtain ⟨g19, H⟩ := ck_e H
              obtain ⟨g20, H⟩ := ck_e H
              refine J.run b_M_street_109_18 k_M_street_109_18 rfl (And.intro (okB_st (S := (uI (uI (uI S11 192 ((((29 : Int32) + ((5 : Int32) * (gI S11 192 2))) + (0 : Int32))).toNatClampNeg x1) 192 ((((29 : Int32) + ((5 : Int32) * (gI S11 192 2))) + (1 : Int32))).toNatClampNeg x2) 192 ((((29 : Int32) + ((5 : Int32) * (gI S11 192 2))) + (2 : Int32))).toNatClampNeg x3)) (n := 358) rfl g19) (And.intro (okO_st (S := (uI (uI (uI (uI S11 192 ((((29 : Int32) + ((5 : Int32) * (gI S11 192 2))) + (0 : Int32))).toNatClampNeg x1) 192 ((((29 : Int32) + ((5 : Int32) * (gI S11 192 2))) + (1 : Int32))).toNatClampNeg x2) 192 ((((29 : Int32) + ((5 : Int32) * (gI S11 192 2))) + (2 : Int32))).toNatClampNeg x3) 192 ((((29 : Int32) + ((5 : Int32) * (gI S11 192 2))) + (3 : Int32))).toNatClampNeg (0 : Int32))) rfl) (And.intro (okB_st (S := (uI (uI (uI (uI S11 192 ((((29 : Int32) + ((5 : Int32) * (gI S11 192 2))) + (0 : Int32))).toNatClampNeg x1) 192 ((((29 : Int32) + ((5 : Int32) * (gI S11 192 2))) + (1 : Int32))).toNatClampNeg x2) 192 ((((29 : Int32) + ((5 : Int32) * (gI S11 192 2))) + (2 : Int32))).toNatClampNeg x3) 192 ((((29 : Int32) + ((5 : Int32) * (gI S11 192 2))) + (3 : Int32))).toNatClampNeg (0 : Int32))) (n := 358) rfl g20) (And.intro (okO_st (S := (uI (uI (uI (uI (uI S11 192 ((((29 : Int32) + ((5 : Int32) * (gI S11 192 2))) + (0 : Int32))).toNatClampNeg x1) 192 ((((29 : Int32) + ((5 : Int32) * (gI S11 192 2))) + (1 : Int32))).toNatClampNeg x2) 192 ((((29 : Int32) + ((5 : Int32) * (gI S11 192 2))) + (2 : Int32))).toNatClampNeg x3) 192 ((((29 : Int32) + ((5 : Int32) * (gI S11 192 2))) + (3 : Int32))).toNatClampNeg (0 : Int32)) 192 ((((29 : Int32) + ((5 : Int32) * (gI S11 192 2))) + (4 : Int32))).toNatClampNeg (0 : Int32))) rfl) (And.intro (okA_st (S := (uI (uI (uI (uI (uI S11 192 ((((29 : Int32) + ((5 : Int32) * (gI S11 192 2))) + (0 : Int32))).toNatClampNeg x1) 192 ((((29 : Int32) + ((5 : Int32) * (gI S11 192 2))) + (1 : Int32))).toNatClampNeg x2) 192 ((((29 : Int32) + ((5 : Int32) * (gI S11 192 2))) + (2 : Int32))).toNatClampNeg x3) 192 ((((29 : Int32) + ((5 : Int32) * (gI S11 192 2))) + (3 : Int32))).toNatClampNeg (0 : Int32)) 192 ((((29 : Int32) + ((5 : Int32) * (gI S11 192 2))) + (4 : Int32))).toNatClampNeg (0 : Int32))) (n := 358) rfl rfl) (And.intro (okB_st (S := (uI (uI (uI (uI (uI S11 192 ((((29 : Int32) + ((5 : Int32) * (gI S11 192 2))) + (0 : Int32))).toNatClampNeg x1) 192 ((((29 : Int32) + ((5 : Int32) * (gI S11 192 2))) + (1 : Int32))).toNatClampNeg x2) 192 ((((29 : Int32) + ((5 : Int32) * (gI S11 192 2))) + (2 : Int32))).toNatClampNeg x3) 192 ((((29 : Int32) + ((5 : Int32) * (gI S11 192 2))) + (3 : Int32))).toNatClampNeg (0 : Int32)) 192 ((((29 : Int32) + ((5 : Int32) * (gI S11 192 2))) + (4 : Int32))).toNatClampNeg (0 : Int32))) (n := 358) rfl rfl) (show J w (d + 3) m_M_street (n0, z0, some (.int z.1), mk c z.2) 133 [some (.ref 191), some (.int x1), some (.int x2), some (.int x3), some (.int x4), some (.int (gI S11 192 2)), some (.int ((29 : Int32) + ((5 : Int32) * (gI S11 192 2))))] [.int (gI S11 192 2)] (mk c (uI (uI (uI (uI (uI (uI S11 192 ((((29 : Int32) + ((5 : Int32) * (gI S11 192 2))) + (0 : Int32))).toNatClampNeg x1) 192 ((((29 : Int32) + ((5 : Int32) * (gI S11 192 2))) + (1 : Int32))).toNatClampNeg x2) 192 ((((29 : Int32) + ((5 : Int32) * (gI S11 192 2))) + (2 : Int32))).toNatClampNeg x3) 192 ((((29 : Int32) + ((5 : Int32) * (gI S11 192 2))) + (3 : Int32))).toNatClampNeg (0 : Int32)) 192 ((((29 : Int32) + ((5 : Int32) * (gI S11 192 2))) + (4 : Int32))).toNatClampNeg (0 : Int32)) 192 2 ((gI (uI (uI (uI (uI (uI S11 192 ((((29 : Int32) + ((5 : Int32) * (gI S11 192 2))) + (0 : Int32))).toNatClampNeg x1) 192 ((((29 : Int32) + ((5 : Int32) * (gI S11 192 2))) + (1 : Int32))).toNatClampNeg x2) 192 ((((29 : Int32) + ((5 : Int32) * (gI S11 192 2))) + (2 : Int32))).toNatClampNeg x3) 192 ((((29 : Int32) + ((5 : Int32) * (gI S11 192 2))) + (3 : Int32))).toNatClampNeg (0 : Int32)) 192 ((((29 : Int32) + ((5 : Int32) * (gI S11 192 2))) + (4 : Int32))).toNatClampNeg (0 : Int32)) 192 2) + (1 : Int32)))) from ?_)))))))
              obtain rfl := some_e H
              exact J.iret d_M_street_133 rfl rfl
            · have H := ite_f H q18
              refine J.run b_M_street_105_1 k_M_street_105_1 rfl (show J w (d + 3) m_M_street (n0, z0, some (.int z.1), mk c z.2) 106 [some (.ref 191), some (.int x1), some (.int x2), some (.int x3), some (.int x4), some (.int (gI S11 192 2)), some (.int ((29 : Int32) + ((5 : Int32) * (gI S11 192 2))))] [.int (1 : Int32), .int (((29 : Int32) + ((5 : Int32) * (gI S11 192 2))) + (3 : Int32)), .ref 192] (mk c (uI (uI (uI S11 192 ((((29 : Int32) + ((5 : Int32) * (gI S11 192 2))) + (0 : Int32))).toNatClampNeg x1) 192 ((((29 : Int32) + ((5 : Int32) * (gI S11 192 2))) + (1 : Int32))).toNatClampNeg x2) 192 ((((29 : Int32) + ((5 : Int32) * (gI S11 192 2))) + (2 : Int32))).toNatClampNeg x3)) from ?_)
              refine J.goto (tgt := 110) d_M_street_106 rfl ?_
              obtain ⟨g21, H⟩ := ck_e H
              obtain ⟨g22, H⟩ := ck_e H
              refine J.run b_M_street_110_17 k_M_street_110_17 rfl (And.intro (okB_st (S := (uI (uI (uI S11 192 ((((29 : Int32) + ((5 : Int32) * (gI S11 192 2))) + (0 : Int32))).toNatClampNeg x1) 192 ((((29 : Int32) + ((5 : Int32) * (gI S11 192 2))) + (1 : Int32))).toNatClampNeg x2) 192 ((((29 : Int32) + ((5 : Int32) * (gI S11 192 2))) + (2 : Int32))).toNatClampNeg x3)) (n := 358) rfl g21) (And.intro (okO_st (S := (uI (uI (uI (uI S11 192 ((((29 : Int32) + ((5 : Int32) * (gI S11 192 2))) + (0 : Int32))).toNatClampNeg x1) 192 ((((29 : Int32) + ((5 : Int32) * (gI S11 192 2))) + (1 : Int32))).toNatClampNeg x2) 192 ((((29 : Int32) + ((5 : Int32) * (gI S11 192 2))) + (2 : Int32))).toNatClampNeg x3) 192 ((((29 : Int32) + ((5 : Int32) * (gI S11 192 2))) + (3 : Int32))).toNatClampNeg (1 : Int32))) rfl) (And.intro (okB_st (S := (uI (uI (uI (uI S11 192 ((((29 : Int32) + ((5 : Int32) * (gI S11 192 2))) + (0 : Int32))).toNatClampNeg x1) 192 ((((29 : Int32) + ((5 : Int32) * (gI S11 192 2))) + (1 : Int32))).toNatClampNeg x2) 192 ((((29 : Int32) + ((5 : Int32) * (gI S11 192 2))) + (2 : Int32))).toNatClampNeg x3) 192 ((((29 : Int32) + ((5 : Int32) * (gI S11 192 2))) + (3 : Int32))).toNatClampNeg (1 : Int32))) (n := 358) rfl g22) (And.intro (okO_st (S := (uI (uI (uI (uI (uI S11 192 ((((29 : Int32) + ((5 : Int32) * (gI S11 192 2))) + (0 : Int32))).toNatClampNeg x1) 192 ((((29 : Int32) + ((5 : Int32) * (gI S11 192 2))) + (1 : Int32))).toNatClampNeg x2) 192 ((((29 : Int32) + ((5 : Int32) * (gI S11 192 2))) + (2 : Int32))).toNatClampNeg x3) 192 ((((29 : Int32) + ((5 : Int32) * (gI S11 192 2))) + (3 : Int32))).toNatClampNeg (1 : Int32)) 192 ((((29 : Int32) + ((5 : Int32) * (gI S11 192 2))) + (4 : Int32))).toNatClampNeg (0 : Int32))) rfl) (And.intro (okA_st (S := (uI (uI (uI (uI (uI S11 192 ((((29 : Int32) + ((5 : Int32) * (gI S11 192 2))) + (0 : Int32))).toNatClampNeg x1) 192 ((((29 : Int32) + ((5 : Int32) * (gI S11 192 2))) + (1 : Int32))).toNatClampNeg x2) 192 ((((29 : Int32) + ((5 : Int32) * (gI S11 192 2))) + (2 : Int32))).toNatClampNeg x3) 192 ((((29 : Int32) + ((5 : Int32) * (gI S11 192 2))) + (3 : Int32))).toNatClampNeg (1 : Int32)) 192 ((((29 : Int32) + ((5 : Int32) * (gI S11 192 2))) + (4 : Int32))).toNatClampNeg (0 : Int32))) (n := 358) rfl rfl) (And.intro (okB_st (S := (uI (uI (uI (uI (uI S11 192 ((((29 : Int32) + ((5 : Int32) * (gI S11 192 2))) + (0 : Int32))).toNatClampNeg x1) 192 ((((29 : Int32) + ((5 : Int32) * (gI S11 192 2))) + (1 : Int32))).toNatClampNeg x2) 192 ((((29 : Int32) + ((5 : Int32) * (gI S11 192 2))) + (2 : Int32))).toNatClampNeg x3) 192 ((((29 : Int32) + ((5 : Int32) * (gI S11 192 2))) + (3 : Int32))).toNatClampNeg (1 : Int32)) 192 ((((29 : Int32) + ((5 : Int32) * (gI S11 192 2))) + (4 : Int32))).toNatClampNeg (0 : Int32))) (n := 358) rfl rfl) (show J w (d + 3) m_M_street (n0, z0, some (.int z.1), mk c z.2) 133 [some (.ref 191), some (.int x1), some (.int x2), some (.int x3), some (.int x4), some (.int (gI S11 192 2)), some (.int ((29 : Int32) + ((5 : Int32) * (gI S11 192 2))))] [.int (gI S11 192 2)] (mk c (uI (uI (uI (uI (uI (uI S11 192 ((((29 : Int32) + ((5 : Int32) * (gI S11 192 2))) + (0 : Int32))).toNatClampNeg x1) 192 ((((29 : Int32) + ((5 : Int32) * (gI S11 192 2))) + (1 : Int32))).toNatClampNeg x2) 192 ((((29 : Int32) + ((5 : Int32) * (gI S11 192 2))) + (2 : Int32))).toNatClampNeg x3) 192 ((((29 : Int32) + ((5 : Int32) * (gI S11 192 2))) + (3 : Int32))).toNatClampNeg (1 : Int32)) 192 ((((29 : Int32) + ((5 : Int32) * (gI S11 192 2))) + (4 : Int32))).toNatClampNeg (0 : Int32)) 192 2 ((gI (uI (uI (uI (uI (uI S11 192 ((((29 : Int32) + ((5 : Int32) * (gI S11 192 2))) + (0 : Int32))).toNatClampNeg x1) 192 ((((29 : Int32) + ((5 : Int32) * (gI S11 192 2))) + (1 : Int32))).toNatClampNeg x2) 192 ((((29 : Int32) + ((5 : Int32) * (gI S11 192 2))) + (2 : Int32))).toNatClampNeg x3) 192 ((((29 : Int32) + ((5 : Int32) * (gI S11 192 2))) + (3 : Int32))).toNatClampNeg (1 : Int32)) 192 ((((29 : Int32) + ((5 : Int32) * (gI S11 192 2))) + (4 : Int32))).toNatClampNeg (0 : Int32)) 192 2) + (1 : Int32)))) from ?_)))))))
              obtain rfl := some_e H
              exact J.iret d_M_street_133 rfl rfl
          · have H := ite_t H q14
            refine J.run b_M_street_50_1 k_M_street_50_1 rfl (show J w (d + 3) m_M_street (n0, z0, some (.int z.1), mk c z.2) 52 [some (.ref 191), some (.int x1), some (.int x2), some (.int x3), some (.int x4), some (.int (gI S11 192 2)), none] [.int (-2 : Int32)] (mk c S11) from ?_)
            obtain rfl := some_e H
            exact J.iret d_M_street_52 rfl rfl
        · have H := ite_t H q13
          refine J.run b_M_street_33_1 k_M_street_33_1 rfl (show J w (d + 3) m_M_street (n0, z0, some (.int z.1), mk c z.2) 34 [some (.ref 191), some (.int x1), some (.int x2), some (.int x3), some (.int x4), none, none] [.int (-1 : Int32)] (mk c S11) from ?_)
          obtain rfl := some_e H
          exact J.iret d_M_street_34 rfl rfl
def b_M_longOf_0_3 : List Ins := [(.aload_n 0, 0, 0, 0), (.iload_n 1, 0, 0, 0), (.iconst (0), 0, 0, 0)]
theorem k_M_longOf_0_3 : bok m_M_longOf 0 b_M_longOf_0_3 = true := by decide +kernel
def b_M_longOf_6_4 : List Ins := [(.istore_n 2, 0, 0, 0), (.aload_n 0, 0, 0, 0), (.iload_n 1, 0, 0, 0), (.iconst (1), 0, 0, 0)]
theorem k_M_longOf_6_4 : bok m_M_longOf 6 b_M_longOf_6_4 = true := by decide +kernel
def b_M_longOf_13_3 : List Ins := [(.istore_n 3, 0, 0, 0), (.aload_n 0, 0, 0, 0), (.iload_n 2, 0, 0, 0)]
theorem k_M_longOf_13_3 : bok m_M_longOf 13 b_M_longOf_13_3 = true := by decide +kernel
def b_M_longOf_19_2 : List Ins := [(.aload_n 0, 0, 0, 0), (.iload_n 3, 0, 0, 0)]
theorem k_M_longOf_19_2 : bok m_M_longOf 19 b_M_longOf_19_2 = true := by decide +kernel
def b_M_longOf_24_1 : List Ins := [(.isub, 0, 0, 0)]
theorem k_M_longOf_24_1 : bok m_M_longOf 24 b_M_longOf_24_1 = true := by decide +kernel
def b_M_longOf_28_2 : List Ins := [(.aload_n 0, 0, 0, 0), (.iload_n 2, 0, 0, 0)]
theorem k_M_longOf_28_2 : bok m_M_longOf 28 b_M_longOf_28_2 = true := by decide +kernel
def b_M_longOf_33_2 : List Ins := [(.aload_n 0, 0, 0, 0), (.iload_n 3, 0, 0, 0)]
theorem k_M_longOf_33_2 : bok m_M_longOf 33 b_M_longOf_33_2 = true := by decide +kernel
def b_M_longOf_38_1 : List Ins := [(.isub, 0, 0, 0)]
theorem k_M_longOf_38_1 : bok m_M_longOf 38 b_M_longOf_38_1 = true := by decide +kernel
def b_M_longOf_42_1 : List Ins := [(.iadd, 0, 0, 0)]
theorem k_M_longOf_42_1 : bok m_M_longOf 42 b_M_longOf_42_1 = true := by decide +kernel
theorem d_M_longOf_3 : decode m_M_longOf.2.1 3 = .ok (.invokevirtual 133, 3) := by decide +kernel
theorem d_M_longOf_10 : decode m_M_longOf.2.1 10 = .ok (.invokevirtual 133, 3) := by decide +kernel
theorem d_M_longOf_16 : decode m_M_longOf.2.1 16 = .ok (.invokevirtual 109, 3) := by decide +kernel
theorem d_M_longOf_21 : decode m_M_longOf.2.1 21 = .ok (.invokevirtual 109, 3) := by decide +kernel
theorem d_M_longOf_25 : decode m_M_longOf.2.1 25 = .ok (.invokestatic 137, 3) := by decide +kernel
theorem d_M_longOf_30 : decode m_M_longOf.2.1 30 = .ok (.invokevirtual 113, 3) := by decide +kernel
theorem d_M_longOf_35 : decode m_M_longOf.2.1 35 = .ok (.invokevirtual 113, 3) := by decide +kernel
theorem d_M_longOf_39 : decode m_M_longOf.2.1 39 = .ok (.invokestatic 137, 3) := by decide +kernel
theorem d_M_longOf_43 : decode m_M_longOf.2.1 43 = .ok (.ireturn, 1) := by decide +kernel
def f_M_longOf  (S : hs) (x1 : Int32) : Option (Int32 × hs) := bd (f_M_streetIs  S x1 (0 : Int32)) fun r1 S2 => bd (f_M_streetIs  S2 x1 (1 : Int32)) fun r4 S5 => bd (f_M_xOf  S5 r1) fun r7 S8 => bd (f_M_xOf  S8 r4) fun r10 S11 => bd (f_Ma_abs  S11 (r7 - r10)) fun r13 S14 => bd (f_M_yOf  S14 r1) fun r16 S17 => bd (f_M_yOf  S17 r4) fun r19 S20 => bd (f_Ma_abs  S20 (r16 - r19)) fun r22 S23 => some ((r13 + r22), S23)
theorem c_M_longOf (w : Wd) (d : Nat) (c : cx)   (S : hs) (x1 : Int32)  {z : Int32 × hs} (H : f_M_longOf S x1 = some z) : Cl w (d + 2) m_M_longOf [.ref 191, .int x1] (mk c S) (some (.int z.1)) (mk c z.2) := by
  refine Cl.of (Nat.le_refl _) (Nat.le_refl _) (by decide +kernel) (Nat.le_of_ble_eq_true rfl) ?_
  unfold f_M_longOf at H
  generalize hN (mk c S) = n0
  generalize hZ (mk c S) = z0
  show J w (d + 2) m_M_longOf (n0, z0, some (.int z.1), mk c z.2) 0 [some (.ref 191), some (.int x1), none, none] [] (mk c S)
  refine J.run b_M_longOf_0_3 k_M_longOf_0_3 rfl (show J w (d + 2) m_M_longOf (n0, z0, some (.int z.1), mk c z.2) 3 [some (.ref 191), some (.int x1), none, none] [.int (0 : Int32), .int x1, .ref 191] (mk c S) from ?_)
  obtain ⟨r1, S2, h3, H⟩ := bd_e H
  refine J.callV (y := m_M_streetIs) (av := [.int x1, .int (0 : Int32)]) (rest := []) (q := 191) l_M_133 d_M_longOf_3 (isC_st rfl rfl) (c_M_streetIs w (d + 0) c  S x1 (0 : Int32) h3) rfl (Nat.le_of_ble_eq_true rfl) ⟨Nat.le_refl _, Nat.le_refl _⟩ (show J w (d + 2) m_M_longOf (n0, z0, some (.int z.1), mk c z.2) 6 [some (.ref 191), some (.int x1), none, none] [.int r1] (mk c S2) from ?_)
  refine J.run b_M_longOf_6_4 k_M_longOf_6_4 rfl (show J w (d + 2) m_M_longOf (n0, z0, some (.int z.1), mk c z.2) 10 [some (.ref 191), some (.int x1), some (.int r1), none] [.int (1 : Int32), .int x1, .ref 191] (mk c S2) from ?_)
  obtain ⟨r4, S5, h6, H⟩ := bd_e H
  refine J.callV (y := m_M_streetIs) (av := [.int x1, .int (1 : Int32)]) (rest := []) (q := 191) l_M_133 d_M_longOf_10 (isC_st rfl rfl) (c_M_streetIs w (d + 0) c  S2 x1 (1 : Int32) h6) rfl (Nat.le_of_ble_eq_true rfl) ⟨Nat.le_refl _, Nat.le_refl _⟩ (show J w (d + 2) m_M_longOf (n0, z0, some (.int z.1), mk c z.2) 13 [some (.ref 191), some (.int x1), some (.int r1), none] [.int r4] (mk c S5) from ?_)
  refine J.run b_M_longOf_13_3 k_M_longOf_13_3 rfl (show J w (d + 2) m_M_longOf (n0, z0, some (.int z.1), mk c z.2) 16 [some (.ref 191), some (.int x1), some (.int r1), some (.int r4)] [.int r1, .ref 191] (mk c S5) from ?_)
  obtain ⟨r7, S8, h9, H⟩ := bd_e H
  refine J.callV (y := m_M_xOf) (av := [.int r1]) (rest := []) (q := 191) l_M_109 d_M_longOf_16 (isC_st rfl rfl) (c_M_xOf w (d + 0) c  S5 r1 h9) rfl (Nat.le_of_ble_eq_true rfl) ⟨Nat.le_refl _, Nat.le_refl _⟩ (show J w (d + 2) m_M_longOf (n0, z0, some (.int z.1), mk c z.2) 19 [some (.ref 191), some (.int x1), some (.int r1), some (.int r4)] [.int r7] (mk c S8) from ?_)
  refine J.run b_M_longOf_19_2 k_M_longOf_19_2 rfl (show J w (d + 2) m_M_longOf (n0, z0, some (.int z.1), mk c z.2) 21 [some (.ref 191), some (.int x1), some (.int r1), some (.int r4)] [.int r4, .ref 191, .int r7] (mk c S8) from ?_)
  obtain ⟨r10, S11, h12, H⟩ := bd_e H
  refine J.callV (y := m_M_xOf) (av := [.int r4]) (rest := [.int r7]) (q := 191) l_M_109 d_M_longOf_21 (isC_st rfl rfl) (c_M_xOf w (d + 0) c  S8 r4 h12) rfl (Nat.le_of_ble_eq_true rfl) ⟨Nat.le_refl _, Nat.le_refl _⟩ (show J w (d + 2) m_M_longOf (n0, z0, some (.int z.1), mk c z.2) 24 [some (.ref 191), some (.int x1), some (.int r1), some (.int r4)] [.int r10, .int r7] (mk c S11) from ?_)
  refine J.run b_M_longOf_24_1 k_M_longOf_24_1 rfl (show J w (d + 2) m_M_longOf (n0, z0, some (.int z.1), mk c z.2) 25 [some (.ref 191), some (.int x1), some (.int r1), some (.int r4)] [.int (r7 - r10)] (mk c S11) from ?_)
  obtain ⟨r13, S14, h15, H⟩ := bd_e H
  refine J.callS (y := m_Ma_abs) (av := [.int (r7 - r10)]) (rest := []) l_M_137 d_M_longOf_25 (c_Ma_abs w (d + 0) c  S11 (r7 - r10) h15) rfl (Nat.le_of_ble_eq_true rfl) ⟨Nat.le_refl _, Nat.le_refl _⟩ (show J w (d + 2) m_M_longOf (n0, z0, some (.int z.1), mk c z.2) 28 [some (.ref 191), some (.int x1), some (.int r1), some (.int r4)] [.int r13] (mk c S14) from ?_)
  refine J.run b_M_longOf_28_2 k_M_longOf_28_2 rfl (show J w (d + 2) m_M_longOf (n0, z0, some (.int z.1), mk c z.2) 30 [some (.ref 191), some (.int x1), some (.int r1), some (.int r4)] [.int r1, .ref 191, .int r13] (mk c S14) from ?_)
  obtain ⟨r16, S17, h18, H⟩ := bd_e H
  refine J.callV (y := m_M_yOf) (av := [.int r1]) (rest := [.int r13]) (q := 191) l_M_113 d_M_longOf_30 (isC_st rfl rfl) (c_M_yOf w (d + 0) c  S14 r1 h18) rfl (Nat.le_of_ble_eq_true rfl) ⟨Nat.le_refl _, Nat.le_refl _⟩ (show J w (d + 2) m_M_longOf (n0, z0, some (.int z.1), mk c z.2) 33 [some (.ref 191), some (.int x1), some (.int r1), some (.int r4)] [.int r16, .int r13] (mk c S17) from ?_)
  refine J.run b_M_longOf_33_2 k_M_longOf_33_2 rfl (show J w (d + 2) m_M_longOf (n0, z0, some (.int z.1), mk c z.2) 35 [some (.ref 191), some (.int x1), some (.int r1), some (.int r4)] [.int r4, .ref 191, .int r16, .int r13] (mk c S17) from ?_)
  obtain ⟨r19, S20, h21, H⟩ := bd_e H
  refine J.callV (y := m_M_yOf) (av := [.int r4]) (rest := [.int r16, .int r13]) (q := 191) l_M_113 d_M_longOf_35 (isC_st rfl rfl) (c_M_yOf w (d + 0) c  S17 r4 h21) rfl (Nat.le_of_ble_eq_true rfl) ⟨Nat.le_refl _, Nat.le_refl _⟩ (show J w (d + 2) m_M_longOf (n0, z0, some (.int z.1), mk c z.2) 38 [some (.ref 191), some (.int x1), some (.int r1), some (.int r4)] [.int r19, .int r16, .int r13] (mk c S20) from ?_)
  refine J.run b_M_longOf_38_1 k_M_longOf_38_1 rfl (show J w (d + 2) m_M_longOf (n0, z0, some (.int z.1), mk c z.2) 39 [some (.ref 191), some (.int x1), some (.int r1), some (.int r4)] [.int (r16 - r19), .int r13] (mk c S20) from ?_)
  obtain ⟨r22, S23, h24, H⟩ := bd_e H
  refine J.callS (y := m_Ma_abs) (av := [.int (r16 - r19)]) (rest := [.int r13]) l_M_137 d_M_longOf_39 (c_Ma_abs w (d + 0) c  S20 (r16 - r19) h24) rfl (Nat.le_of_ble_eq_true rfl) ⟨Nat.le_refl _, Nat.le_refl _⟩ (show J w (d + 2) m_M_longOf (n0, z0, some (.int z.1), mk c z.2) 42 [some (.ref 191), some (.int x1), some (.int r1), some (.int r4)] [.int r22, .int r13] (mk c S23) from ?_)
  refine J.run b_M_longOf_42_1 k_M_longOf_42_1 rfl (show J w (d + 2) m_M_longOf (n0, z0, some (.int z.1), mk c z.2) 43 [some (.ref 191), some (.int x1), some (.int r1), some (.int r4)] [.int (r13 + r22)] (mk c S23) from ?_)
  obtain rfl := some_e H
  exact J.iret d_M_longOf_43 rfl rfl
def b_M_streetOf_0_3 : List Ins := [(.aload_n 0, 0, 0, 0), (.iload_n 1, 0, 0, 0), (.iconst (2), 0, 0, 0)]
theorem k_M_streetOf_0_3 : bok m_M_streetOf 0 b_M_streetOf_0_3 = true := by decide +kernel
def b_M_streetOf_18_1 : List Ins := [(.iconst (-1), 0, 0, 0)]
theorem k_M_streetOf_18_1 : bok m_M_streetOf 18 b_M_streetOf_18_1 = true := by decide +kernel
def b_M_streetOf_9_3 : List Ins := [(.iload_n 2, 0, 0, 0), (.iconst (0), 0, 0, 0), (.iconst (5), 0, 0, 0)]
theorem k_M_streetOf_9_3 : bok m_M_streetOf 9 b_M_streetOf_9_3 = true := by decide +kernel
def b_M_streetOf_20_2 : List Ins := [(.iload_n 2, 0, 0, 0), (.iconst (4), 0, 0, 0)]
theorem k_M_streetOf_20_2 : bok m_M_streetOf 20 b_M_streetOf_20_2 = true := by decide +kernel
def b_M_streetOf_34_2 : List Ins := [(.iload_n 2, 0, 0, 0), (.iconst (4), 0, 0, 0)]
theorem k_M_streetOf_34_2 : bok m_M_streetOf 34 b_M_streetOf_34_2 = true := by decide +kernel
def b_M_streetOf_47_3 : List Ins := [(.aload_n 0, 0, 0, 0), (.iload_n 1, 0, 0, 0), (.iconst (4), 0, 0, 0)]
theorem k_M_streetOf_47_3 : bok m_M_streetOf 47 b_M_streetOf_47_3 = true := by decide +kernel
def b_M_streetOf_39_2 : List Ins := [(.aload_n 0, 0, 0, 0), (.iload_n 1, 0, 0, 0)]
theorem k_M_streetOf_39_2 : bok m_M_streetOf 39 b_M_streetOf_39_2 = true := by decide +kernel
def b_M_streetOf_25_3 : List Ins := [(.aload_n 0, 0, 0, 0), (.iload_n 1, 0, 0, 0), (.iload_n 2, 0, 0, 0)]
theorem k_M_streetOf_25_3 : bok m_M_streetOf 25 b_M_streetOf_25_3 = true := by decide +kernel
theorem d_M_streetOf_3 : decode m_M_streetOf.2.1 3 = .ok (.invokevirtual 120, 3) := by decide +kernel
theorem d_M_streetOf_6 : decode m_M_streetOf.2.1 6 = .ok (.ifCond .eq (12), 3) := by decide +kernel
theorem d_M_streetOf_19 : decode m_M_streetOf.2.1 19 = .ok (.ireturn, 1) := by decide +kernel
theorem d_M_streetOf_12 : decode m_M_streetOf.2.1 12 = .ok (.invokestatic 105, 3) := by decide +kernel
theorem d_M_streetOf_15 : decode m_M_streetOf.2.1 15 = .ok (.ifCond .ne (5), 3) := by decide +kernel
theorem d_M_streetOf_22 : decode m_M_streetOf.2.1 22 = .ok (.if_icmp .ge (12), 3) := by decide +kernel
theorem d_M_streetOf_36 : decode m_M_streetOf.2.1 36 = .ok (.if_icmp .ne (11), 3) := by decide +kernel
theorem d_M_streetOf_50 : decode m_M_streetOf.2.1 50 = .ok (.invokevirtual 133, 3) := by decide +kernel
theorem d_M_streetOf_53 : decode m_M_streetOf.2.1 53 = .ok (.ireturn, 1) := by decide +kernel
theorem d_M_streetOf_41 : decode m_M_streetOf.2.1 41 = .ok (.invokevirtual 142, 3) := by decide +kernel
theorem d_M_streetOf_44 : decode m_M_streetOf.2.1 44 = .ok (.goto (9), 3) := by decide +kernel
theorem d_M_streetOf_28 : decode m_M_streetOf.2.1 28 = .ok (.invokevirtual 133, 3) := by decide +kernel
theorem d_M_streetOf_31 : decode m_M_streetOf.2.1 31 = .ok (.goto (22), 3) := by decide +kernel
def f_M_streetOf  (S : hs) (x1 : Int32) (x2 : Int32) : Option (Int32 × hs) := bd (f_M_is  S x1 (2 : Int32)) fun r1 S2 => (if r1 = 0 then some ((-1 : Int32), S2) else bd (f_M_in  S2 x2 (0 : Int32) (5 : Int32)) fun r5 S6 => (if r5 = 0 then some ((-1 : Int32), S6) else (if (4 : Int32) ≤ x2 then (if x2 = (4 : Int32) then bd (f_M_longOf  S6 x1) fun r14 S15 => some (r14, S15) else bd (f_M_streetIs  S6 x1 (4 : Int32)) fun r11 S12 => some (r11, S12)) else bd (f_M_streetIs  S6 x1 x2) fun r17 S18 => some (r17, S18))))
theorem c_M_streetOf (w : Wd) (d : Nat) (c : cx)   (S : hs) (x1 : Int32) (x2 : Int32)  {z : Int32 × hs} (H : f_M_streetOf S x1 x2 = some z) : Cl w (d + 3) m_M_streetOf [.ref 191, .int x1, .int x2] (mk c S) (some (.int z.1)) (mk c z.2) := by
  refine Cl.of (Nat.le_refl _) (Nat.le_refl _) (by decide +kernel) (Nat.le_of_ble_eq_true rfl) ?_
  unfold f_M_streetOf at H
  generalize hN (mk c S) = n0
  generalize hZ (mk c S) = z0
  show J w (d + 3) m_M_streetOf (n0, z0, some (.int z.1), mk c z.2) 0 [some (.ref 191), some (.int x1), some (.int x2)] [] (mk c S)
  refine J.run b_M_streetOf_0_3 k_M_streetOf_0_3 rfl (show J w (d + 3) m_M_streetOf (n0, z0, some (.int z.1), mk c z.2) 3 [some (.ref 191), some (.int x1), some (.int x2)] [.int (2 : Int32), .int x1, .ref 191] (mk c S) from ?_)
  obtain ⟨r1, S2, h3, H⟩ := bd_e H
  refine J.callV (y := m_M_is) (av := [.int x1, .int (2 : Int32)]) (rest := []) (q := 191) l_M_120 d_M_streetOf_3 (isC_st rfl rfl) (c_M_is w (d + 0) c  S x1 (2 : Int32) h3) rfl (Nat.le_of_ble_eq_true rfl) ⟨Nat.le_refl _, Nat.le_refl _⟩ (show J w (d + 3) m_M_streetOf (n0, z0, some (.int z.1), mk c z.2) 6 [some (.ref 191), some (.int x1), some (.int x2)] [.int r1] (mk c S2) from ?_)
  refine J.zeq (tgt := 18) d_M_streetOf_6 rfl (fun q4 => ?_) (fun q4 => ?_)
  · have H := ite_t H q4
    refine J.run b_M_streetOf_18_1 k_M_streetOf_18_1 rfl (show J w (d + 3) m_M_streetOf (n0, z0, some (.int z.1), mk c z.2) 19 [some (.ref 191), some (.int x1), some (.int x2)] [.int (-1 : Int32)] (mk c S2) from ?_)
    obtain rfl := some_e H
    exact J.iret d_M_streetOf_19 rfl rfl
  · have H := ite_f H q4
    refine J.run b_M_streetOf_9_3 k_M_streetOf_9_3 rfl (show J w (d + 3) m_M_streetOf (n0, z0, some (.int z.1), mk c z.2) 12 [some (.ref 191), some (.int x1), some (.int x2)] [.int (5 : Int32), .int (0 : Int32), .int x2] (mk c S2) from ?_)
    obtain ⟨r5, S6, h7, H⟩ := bd_e H
    refine J.callS (y := m_M_in) (av := [.int x2, .int (0 : Int32), .int (5 : Int32)]) (rest := []) l_M_105 d_M_streetOf_12 (c_M_in w (d + 1) c  S2 x2 (0 : Int32) (5 : Int32) h7) rfl (Nat.le_of_ble_eq_true rfl) ⟨Nat.le_refl _, Nat.le_refl _⟩ (show J w (d + 3) m_M_streetOf (n0, z0, some (.int z.1), mk c z.2) 15 [some (.ref 191), some (.int x1), some (.int x2)] [.int r5] (mk c S6) from ?_)
    refine J.zne (tgt := 20) d_M_streetOf_15 rfl (fun q8 => ?_) (fun q8 => ?_)
    · have H := ite_f H q8
      refine J.run b_M_streetOf_20_2 k_M_streetOf_20_2 rfl (show J w (d + 3) m_M_streetOf (n0, z0, some (.int z.1), mk c z.2) 22 [some (.ref 191), some (.int x1), some (.int x2)] [.int (4 : Int32), .int x2] (mk c S6) from ?_)
      refine J.cge (tgt := 34) d_M_streetOf_22 rfl (fun q9 => ?_) (fun q9 => ?_)
      · have H := ite_t H q9
        refine J.run b_M_streetOf_34_2 k_M_streetOf_34_2 rfl (show J w (d + 3) m_M_streetOf (n0, z0, some (.int z.1), mk c z.2) 36 [some (.ref 191), some (.int x1), some (.int x2)] [.int (4 : Int32), .int x2] (mk c S6) from ?_)
        refine J.cne (tgt := 47) d_M_streetOf_36 rfl (fun q10 => ?_) (fun q10 => ?_)
        · have H := ite_f H q10
          refine J.run b_M_streetOf_47_3 k_M_streetOf_47_3 rfl (show J w (d + 3) m_M_streetOf (n0, z0, some (.int z.1), mk c z.2) 50 [some (.ref 191), some (.int x1), some (.int x2)] [.int (4 : Int32), .int x1, .ref 191] (mk c S6) from ?_)
          obtain ⟨r11, S12, h13, H⟩ := bd_e H
          refine J.callV (y := m_M_streetIs) (av := [.int x1, .int (4 : Int32)]) (rest := []) (q := 191) l_M_133 d_M_streetOf_50 (isC_st rfl rfl) (c_M_streetIs w (d + 1) c  S6 x1 (4 : Int32) h13) rfl (Nat.le_of_ble_eq_true rfl) ⟨Nat.le_refl _, Nat.le_refl _⟩ (show J w (d + 3) m_M_streetOf (n0, z0, some (.int z.1), mk c z.2) 53 [some (.ref 191), some (.int x1), some (.int x2)] [.int r11] (mk c S12) from ?_)
          obtain rfl := some_e H
          exact J.iret d_M_streetOf_53 rfl rfl
        · have H := ite_t H q10
          refine J.run b_M_streetOf_39_2 k_M_streetOf_39_2 rfl (show J w (d + 3) m_M_streetOf (n0, z0, some (.int z.1), mk c z.2) 41 [some (.ref 191), some (.int x1), some (.int x2)] [.int x1, .ref 191] (mk c S6) from ?_)
          obtain ⟨r14, S15, h16, H⟩ := bd_e H
          refine J.callV (y := m_M_longOf) (av := [.int x1]) (rest := []) (q := 191) l_M_142 d_M_streetOf_41 (isC_st rfl rfl) (c_M_longOf w (d + 0) c  S6 x1 h16) rfl (Nat.le_of_ble_eq_true rfl) ⟨Nat.le_refl _, Nat.le_refl _⟩ (show J w (d + 3) m_M_streetOf (n0, z0, some (.int z.1), mk c z.2) 44 [some (.ref 191), some (.int x1), some (.int x2)] [.int r14] (mk c S15) from ?_)
          refine J.goto (tgt := 53) d_M_streetOf_44 rfl ?_
          obtain rfl := some_e H
          exact J.iret d_M_streetOf_53 rfl rfl
      · have H := ite_f H q9
        refine J.run b_M_streetOf_25_3 k_M_streetOf_25_3 rfl (show J w (d + 3) m_M_streetOf (n0, z0, some (.int z.1), mk c z.2) 28 [some (.ref 191), some (.int x1), some (.int x2)] [.int x2, .int x1, .ref 191] (mk c S6) from ?_)
        obtain ⟨r17, S18, h19, H⟩ := bd_e H
        refine J.callV (y := m_M_streetIs) (av := [.int x1, .int x2]) (rest := []) (q := 191) l_M_133 d_M_streetOf_28 (isC_st rfl rfl) (c_M_streetIs w (d + 1) c  S6 x1 x2 h19) rfl (Nat.le_of_ble_eq_true rfl) ⟨Nat.le_refl _, Nat.le_refl _⟩ (show J w (d + 3) m_M_streetOf (n0, z0, some (.int z.1), mk c z.2) 31 [some (.ref 191), some (.int x1), some (.int x2)] [.int r17] (mk c S18) from ?_)
        refine J.goto (tgt := 53) d_M_streetOf_31 rfl ?_
        obtain rfl := some_e H
        exact J.iret d_M_streetOf_53 rfl rfl
    · have H := ite_t H q8
      refine J.run b_M_streetOf_18_1 k_M_streetOf_18_1 rfl (show J w (d + 3) m_M_streetOf (n0, z0, some (.int z.1), mk c z.2) 19 [some (.ref 191), some (.int x1), some (.int x2)] [.int (-1 : Int32)] (mk c S6) from ?_)
      obtain rfl := some_e H
      exact J.iret d_M_streetOf_19 rfl rfl
def b_M_comes_0_11 : List Ins := [(.aload_n 0, 0, 0, 0), (.getfield 9, 11, 0, 2), (.iload_n 1, 0, 0, 0), (.iaload, 0, 0, 0), (.istore_n 3, 0, 0, 0), (.aload_n 0, 0, 0, 0), (.getfield 9, 11, 0, 2), (.iload_n 1, 0, 0, 0), (.iload_n 2, 0, 0, 0), (.iastore, 0, 0, 0), (.iload_n 3, 0, 0, 0)]
theorem k_M_comes_0_11 : bok m_M_comes 0 b_M_comes_0_11 = true := by decide +kernel
theorem d_M_comes_15 : decode m_M_comes.2.1 15 = .ok (.ireturn, 1) := by decide +kernel
def f_M_comes  (S : hs) (x1 : Int32) (x2 : Int32) : Option (Int32 × hs) := ck (inb x1 358) (some ((gI S 192 (x1).toNatClampNeg), (uI S 192 (x1).toNatClampNeg x2)))
theorem c_M_comes (w : Wd) (d : Nat) (c : cx)   (S : hs) (x1 : Int32) (x2 : Int32)  {z : Int32 × hs} (H : f_M_comes S x1 x2 = some z) : Cl w (d + 1) m_M_comes [.ref 191, .int x1, .int x2] (mk c S) (some (.int z.1)) (mk c z.2) := by
  refine Cl.of (Nat.le_refl _) (Nat.le_refl _) (by decide +kernel) (Nat.le_of_ble_eq_true rfl) ?_
  unfold f_M_comes at H
  generalize hN (mk c S) = n0
  generalize hZ (mk c S) = z0
  show J w (d + 1) m_M_comes (n0, z0, some (.int z.1), mk c z.2) 0 [some (.ref 191), some (.int x1), some (.int x2), none] [] (mk c S)
  obtain ⟨g1, H⟩ := ck_e H
  refine J.run b_M_comes_0_11 k_M_comes_0_11 rfl (And.intro (okO_st (S := S) rfl) (And.intro (okA_st (S := S) (n := 358) rfl g1) (And.intro (okO_st (S := S) rfl) (And.intro (okB_st (S := S) (n := 358) rfl g1) (show J w (d + 1) m_M_comes (n0, z0, some (.int z.1), mk c z.2) 15 [some (.ref 191), some (.int x1), some (.int x2), some (.int (gI S 192 (x1).toNatClampNeg))] [.int (gI S 192 (x1).toNatClampNeg)] (mk c (uI S 192 (x1).toNatClampNeg x2)) from ?_)))))
  obtain rfl := some_e H
  exact J.iret d_M_comes_15 rfl rfl
def b_M_shut_0_1 : List Ins := [(.iload_n 2, 0, 0, 0)]
theorem k_M_shut_0_1 : bok m_M_shut 0 b_M_shut_0_1 = true := by decide +kernel
def b_M_shut_8_5 : List Ins := [(.iconst (0), 0, 0, 0), (.istore_n 3, 0, 0, 0), (.aload_n 0, 0, 0, 0), (.iload_n 1, 0, 0, 0), (.iconst (2), 0, 0, 0)]
theorem k_M_shut_8_5 : bok m_M_shut 8 b_M_shut_8_5 = true := by decide +kernel
def b_M_shut_23_9 : List Ins := [(.aload_n 0, 0, 0, 0), (.bipush (29), 0, 0, 0), (.iconst (5), 0, 0, 0), (.iload_n 1, 0, 0, 0), (.imul, 0, 0, 0), (.iadd, 0, 0, 0), (.iconst (4), 0, 0, 0), (.iadd, 0, 0, 0), (.iload_n 3, 0, 0, 0)]
theorem k_M_shut_23_9 : bok m_M_shut 23 b_M_shut_23_9 = true := by decide +kernel
def b_M_shut_36_1 : List Ins := [(.iload_n 3, 0, 0, 0)]
theorem k_M_shut_36_1 : bok m_M_shut 36 b_M_shut_36_1 = true := by decide +kernel
def b_M_shut_44_1 : List Ins := [(.iconst (1), 0, 0, 0)]
theorem k_M_shut_44_1 : bok m_M_shut 44 b_M_shut_44_1 = true := by decide +kernel
def b_M_shut_40_1 : List Ins := [(.iconst (0), 0, 0, 0)]
theorem k_M_shut_40_1 : bok m_M_shut 40 b_M_shut_40_1 = true := by decide +kernel
def b_M_shut_19_1 : List Ins := [(.iconst (-1), 0, 0, 0)]
theorem k_M_shut_19_1 : bok m_M_shut 19 b_M_shut_19_1 = true := by decide +kernel
def b_M_shut_4_1 : List Ins := [(.iconst (1), 0, 0, 0)]
theorem k_M_shut_4_1 : bok m_M_shut 4 b_M_shut_4_1 = true := by decide +kernel
def b_M_shut_9_4 : List Ins := [(.istore_n 3, 0, 0, 0), (.aload_n 0, 0, 0, 0), (.iload_n 1, 0, 0, 0), (.iconst (2), 0, 0, 0)]
theorem k_M_shut_9_4 : bok m_M_shut 9 b_M_shut_9_4 = true := by decide +kernel
theorem d_M_shut_1 : decode m_M_shut.2.1 1 = .ok (.ifCond .eq (7), 3) := by decide +kernel
theorem d_M_shut_13 : decode m_M_shut.2.1 13 = .ok (.invokevirtual 120, 3) := by decide +kernel
theorem d_M_shut_16 : decode m_M_shut.2.1 16 = .ok (.ifCond .ne (7), 3) := by decide +kernel
theorem d_M_shut_33 : decode m_M_shut.2.1 33 = .ok (.invokevirtual 145, 3) := by decide +kernel
theorem d_M_shut_37 : decode m_M_shut.2.1 37 = .ok (.if_icmp .ne (7), 3) := by decide +kernel
theorem d_M_shut_45 : decode m_M_shut.2.1 45 = .ok (.ireturn, 1) := by decide +kernel
theorem d_M_shut_41 : decode m_M_shut.2.1 41 = .ok (.goto (4), 3) := by decide +kernel
theorem d_M_shut_20 : decode m_M_shut.2.1 20 = .ok (.goto (25), 3) := by decide +kernel
theorem d_M_shut_5 : decode m_M_shut.2.1 5 = .ok (.goto (4), 3) := by decide +kernel
def f_M_shut  (S : hs) (x1 : Int32) (x2 : Int32) : Option (Int32 × hs) := (if x2 = 0 then bd (f_M_is  S x1 (2 : Int32)) fun r2 S3 => (if r2 = 0 then some ((-1 : Int32), S3) else bd (f_M_comes  S3 (((29 : Int32) + ((5 : Int32) * x1)) + (4 : Int32)) (0 : Int32)) fun r6 S7 => (if r6 = (0 : Int32) then some ((0 : Int32), S7) else some ((1 : Int32), S7))) else bd (f_M_is  S x1 (2 : Int32)) fun r10 S11 => (if r10 = 0 then some ((-1 : Int32), S11) else bd (f_M_comes  S11 (((29 : Int32) + ((5 : Int32) * x1)) + (4 : Int32)) (1 : Int32)) fun r14 S15 => (if r14 = (1 : Int32) then some ((0 : Int32), S15) else some ((1 : Int32), S15))))
theorem c_M_shut (w : Wd) (d : Nat) (c : cx)   (S : hs) (x1 : Int32) (x2 : Int32)  {z : Int32 × hs} (H : f_M_shut S x1 x2 = some z) : Cl w (d + 3) m_M_shut [.ref 191, .int x1, .int x2] (mk c S) (some (.int z.1)) (mk c z.2) := by
  refine Cl.of (Nat.le_refl _) (Nat.le_refl _) (by decide +kernel) (Nat.le_of_ble_eq_true rfl) ?_
  unfold f_M_shut at H
  generalize hN (mk c S) = n0
  generalize hZ (mk c S) = z0
  show J w (d + 3) m_M_shut (n0, z0, some (.int z.1), mk c z.2) 0 [some (.ref 191), some (.int x1), some (.int x2), none] [] (mk c S)
  refine J.run b_M_shut_0_1 k_M_shut_0_1 rfl (show J w (d + 3) m_M_shut (n0, z0, some (.int z.1), mk c z.2) 1 [some (.ref 191), some (.int x1), some (.int x2), none] [.int x2] (mk c S) from ?_)
  refine J.zeq (tgt := 8) d_M_shut_1 rfl (fun q1 => ?_) (fun q1 => ?_)
  · have H := ite_t H q1
    refine J.run b_M_shut_8_5 k_M_shut_8_5 rfl (show J w (d + 3) m_M_shut (n0, z0, some (.int z.1), mk c z.2) 13 [some (.ref 191), some (.int x1), some (.int x2), some (.int (0 : Int32))] [.int (2 : Int32), .int x1, .ref 191] (mk c S) from ?_)
    obtain ⟨r2, S3, h4, H⟩ := bd_e H
    refine J.callV (y := m_M_is) (av := [.int x1, .int (2 : Int32)]) (rest := []) (q := 191) l_M_120 d_M_shut_13 (isC_st rfl rfl) (c_M_is w (d + 0) c  S x1 (2 : Int32) h4) rfl (Nat.le_of_ble_eq_true rfl) ⟨Nat.le_refl _, Nat.le_refl _⟩ (show J w (d + 3) m_M_shut (n0, z0, some (.int z.1), mk c z.2) 16 [some (.ref 191), some (.int x1), some (.int x2), some (.int (0 : Int32))] [.int r2] (mk c S3) from ?_)
    refine J.zne (tgt := 23) d_M_shut_16 rfl (fun q5 => ?_) (fun q5 => ?_)
    · have H := ite_f H q5
      refine J.run b_M_shut_23_9 k_M_shut_23_9 rfl (show J w (d + 3) m_M_shut (n0, z0, some (.int z.1), mk c z.2) 33 [some (.ref 191), some (.int x1), some (.int x2), some (.int (0 : Int32))] [.int (0 : Int32), .int (((29 : Int32) + ((5 : Int32) * x1)) + (4 : Int32)), .ref 191] (mk c S3) from ?_)
      obtain ⟨r6, S7, h8, H⟩ := bd_e H
      refine J.callV (y := m_M_comes) (av := [.int (((29 : Int32) + ((5 : Int32) * x1)) + (4 : Int32)), .int (0 : Int32)]) (rest := []) (q := 191) l_M_145 d_M_shut_33 (isC_st rfl rfl) (c_M_comes w (d + 1) c  S3 (((29 : Int32) + ((5 : Int32) * x1)) + (4 : Int32)) (0 : Int32) h8) rfl (Nat.le_of_ble_eq_true rfl) ⟨Nat.le_refl _, Nat.le_refl _⟩ (show J w (d + 3) m_M_shut (n0, z0, some (.int z.1), mk c z.2) 36 [some (.ref 191), some (.int x1), some (.int x2), some (.int (0 : Int32))] [.int r6] (mk c S7) from ?_)
      refine J.run b_M_shut_36_1 k_M_shut_36_1 rfl (show J w (d + 3) m_M_shut (n0, z0, some (.int z.1), mk c z.2) 37 [some (.ref 191), some (.int x1), some (.int x2), some (.int (0 : Int32))] [.int (0 : Int32), .int r6] (mk c S7) from ?_)
      refine J.cne (tgt := 44) d_M_shut_37 rfl (fun q9 => ?_) (fun q9 => ?_)
      · have H := ite_f H q9
        refine J.run b_M_shut_44_1 k_M_shut_44_1 rfl (show J w (d + 3) m_M_shut (n0, z0, some (.int z.1), mk c z.2) 45 [some (.ref 191), some (.int x1), some (.int x2), some (.int (0 : Int32))] [.int (1 : Int32)] (mk c S7) from ?_)
        obtain rfl := some_e H
        exact J.iret d_M_shut_45 rfl rfl
      · have H := ite_t H q9
        refine J.run b_M_shut_40_1 k_M_shut_40_1 rfl (show J w (d + 3) m_M_shut (n0, z0, some (.int z.1), mk c z.2) 41 [some (.ref 191), some (.int x1), some (.int x2), some (.int (0 : Int32))] [.int (0 : Int32)] (mk c S7) from ?_)
        refine J.goto (tgt := 45) d_M_shut_41 rfl ?_
        obtain rfl := some_e H
        exact J.iret d_M_shut_45 rfl rfl
    · have H := ite_t H q5
      refine J.run b_M_shut_19_1 k_M_shut_19_1 rfl (show J w (d + 3) m_M_shut (n0, z0, some (.int z.1), mk c z.2) 20 [some (.ref 191), some (.int x1), some (.int x2), some (.int (0 : Int32))] [.int (-1 : Int32)] (mk c S3) from ?_)
      refine J.goto (tgt := 45) d_M_shut_20 rfl ?_
      obtain rfl := some_e H
      exact J.iret d_M_shut_45 rfl rfl
  · have H := ite_f H q1
    refine J.run b_M_shut_4_1 k_M_shut_4_1 rfl (show J w (d + 3) m_M_shut (n0, z0, some (.int z.1), mk c z.2) 5 [some (.ref 191), some (.int x1), some (.int x2), none] [.int (1 : Int32)] (mk c S) from ?_)
    refine J.goto (tgt := 9) d_M_shut_5 rfl ?_
    refine J.run b_M_shut_9_4 k_M_shut_9_4 rfl (show J w (d + 3) m_M_shut (n0, z0, some (.int z.1), mk c z.2) 13 [some (.ref 191), some (.int x1), some (.int x2), some (.int (1 : Int32))] [.int (2 : Int32), .int x1, .ref 191] (mk c S) from ?_)
    obtain ⟨r10, S11, h12, H⟩ := bd_e H
    refine J.callV (y := m_M_is) (av := [.int x1, .int (2 : Int32)]) (rest := []) (q := 191) l_M_120 d_M_shut_13 (isC_st rfl rfl) (c_M_is w (d + 0) c  S x1 (2 : Int32) h12) rfl (Nat.le_of_ble_eq_true rfl) ⟨Nat.le_refl _, Nat.le_refl _⟩ (show J w (d + 3) m_M_shut (n0, z0, some (.int z.1), mk c z.2) 16 [some (.ref 191), some (.int x1), some (.int x2), some (.int (1 : Int32))] [.int r10] (mk c S11) from ?_)
    refine J.zne (tgt := 23) d_M_shut_16 rfl (fun q13 => ?_) (fun q13 => ?_)
    · have H := ite_f H q13
      refine J.run b_M_shut_23_9 k_M_shut_23_9 rfl (show J w (d + 3) m_M_shut (n0, z0, some (.int z.1), mk c z.2) 33 [some (.ref 191), some (.int x1), some (.int x2), some (.int (1 : Int32))] [.int (1 : Int32), .int (((29 : Int32) + ((5 : Int32) * x1)) + (4 : Int32)), .ref 191] (mk c S11) from ?_)
      obtain ⟨r14, S15, h16, H⟩ := bd_e H
      refine J.callV (y := m_M_comes) (av := [.int (((29 : Int32) + ((5 : Int32) * x1)) + (4 : Int32)), .int (1 : Int32)]) (rest := []) (q := 191) l_M_145 d_M_shut_33 (isC_st rfl rfl) (c_M_comes w (d + 1) c  S11 (((29 : Int32) + ((5 : Int32) * x1)) + (4 : Int32)) (1 : Int32) h16) rfl (Nat.le_of_ble_eq_true rfl) ⟨Nat.le_refl _, Nat.le_refl _⟩ (show J w (d + 3) m_M_shut (n0, z0, some (.int z.1), mk c z.2) 36 [some (.ref 191), some (.int x1), some (.int x2), some (.int (1 : Int32))] [.int r14] (mk c S15) from ?_)
      refine J.run b_M_shut_36_1 k_M_shut_36_1 rfl (show J w (d + 3) m_M_shut (n0, z0, some (.int z.1), mk c z.2) 37 [some (.ref 191), some (.int x1), some (.int x2), some (.int (1 : Int32))] [.int (1 : Int32), .int r14] (mk c S15) from ?_)
      refine J.cne (tgt := 44) d_M_shut_37 rfl (fun q17 => ?_) (fun q17 => ?_)
      · have H := ite_f H q17
        refine J.run b_M_shut_44_1 k_M_shut_44_1 rfl (show J w (d + 3) m_M_shut (n0, z0, some (.int z.1), mk c z.2) 45 [some (.ref 191), some (.int x1), some (.int x2), some (.int (1 : Int32))] [.int (1 : Int32)] (mk c S15) from ?_)
        obtain rfl := some_e H
        exact J.iret d_M_shut_45 rfl rfl
      · have H := ite_t H q17
        refine J.run b_M_shut_40_1 k_M_shut_40_1 rfl (show J w (d + 3) m_M_shut (n0, z0, some (.int z.1), mk c z.2) 41 [some (.ref 191), some (.int x1), some (.int x2), some (.int (1 : Int32))] [.int (0 : Int32)] (mk c S15) from ?_)
        refine J.goto (tgt := 45) d_M_shut_41 rfl ?_
        obtain rfl := some_e H
        exact J.iret d_M_shut_45 rfl rfl
    · have H := ite_t H q13
      refine J.run b_M_shut_19_1 k_M_shut_19_1 rfl (show J w (d + 3) m_M_shut (n0, z0, some (.int z.1), mk c z.2) 20 [some (.ref 191), some (.int x1), some (.int x2), some (.int (1 : Int32))] [.int (-1 : Int32)] (mk c S11) from ?_)
      refine J.goto (tgt := 45) d_M_shut_20 rfl ?_
      obtain rfl := some_e H
      exact J.iret d_M_shut_45 rfl rfl
def b_M_widen_0_3 : List Ins := [(.aload_n 0, 0, 0, 0), (.iload_n 1, 0, 0, 0), (.iconst (2), 0, 0, 0)]
theorem k_M_widen_0_3 : bok m_M_widen 0 b_M_widen_0_3 = true := by decide +kernel
def b_M_widen_35_1 : List Ins := [(.iconst (-1), 0, 0, 0)]
theorem k_M_widen_35_1 : bok m_M_widen 35 b_M_widen_35_1 = true := by decide +kernel
def b_M_widen_9_3 : List Ins := [(.iload_n 2, 0, 0, 0), (.iconst (1), 0, 0, 0), (.bipush (9), 0, 0, 0)]
theorem k_M_widen_9_3 : bok m_M_widen 9 b_M_widen_9_3 = true := by decide +kernel
def b_M_widen_19_9 : List Ins := [(.aload_n 0, 0, 0, 0), (.bipush (29), 0, 0, 0), (.iconst (5), 0, 0, 0), (.iload_n 1, 0, 0, 0), (.imul, 0, 0, 0), (.iadd, 0, 0, 0), (.iconst (2), 0, 0, 0), (.iadd, 0, 0, 0), (.iload_n 2, 0, 0, 0)]
theorem k_M_widen_19_9 : bok m_M_widen 19 b_M_widen_19_9 = true := by decide +kernel
theorem d_M_widen_3 : decode m_M_widen.2.1 3 = .ok (.invokevirtual 120, 3) := by decide +kernel
theorem d_M_widen_6 : decode m_M_widen.2.1 6 = .ok (.ifCond .eq (29), 3) := by decide +kernel
theorem d_M_widen_36 : decode m_M_widen.2.1 36 = .ok (.ireturn, 1) := by decide +kernel
theorem d_M_widen_13 : decode m_M_widen.2.1 13 = .ok (.invokestatic 105, 3) := by decide +kernel
theorem d_M_widen_16 : decode m_M_widen.2.1 16 = .ok (.ifCond .eq (19), 3) := by decide +kernel
theorem d_M_widen_29 : decode m_M_widen.2.1 29 = .ok (.invokevirtual 145, 3) := by decide +kernel
theorem d_M_widen_32 : decode m_M_widen.2.1 32 = .ok (.goto (4), 3) := by decide +kernel
def f_M_widen  (S : hs) (x1 : Int32) (x2 : Int32) : Option (Int32 × hs) := bd (f_M_is  S x1 (2 : Int32)) fun r1 S2 => (if r1 = 0 then some ((-1 : Int32), S2) else bd (f_M_in  S2 x2 (1 : Int32) (9 : Int32)) fun r5 S6 => (if r5 = 0 then some ((-1 : Int32), S6) else bd (f_M_comes  S6 (((29 : Int32) + ((5 : Int32) * x1)) + (2 : Int32)) x2) fun r9 S10 => some (r9, S10)))
theorem c_M_widen (w : Wd) (d : Nat) (c : cx)   (S : hs) (x1 : Int32) (x2 : Int32)  {z : Int32 × hs} (H : f_M_widen S x1 x2 = some z) : Cl w (d + 3) m_M_widen [.ref 191, .int x1, .int x2] (mk c S) (some (.int z.1)) (mk c z.2) := by
  refine Cl.of (Nat.le_refl _) (Nat.le_refl _) (by decide +kernel) (Nat.le_of_ble_eq_true rfl) ?_
  unfold f_M_widen at H
  generalize hN (mk c S) = n0
  generalize hZ (mk c S) = z0
  show J w (d + 3) m_M_widen (n0, z0, some (.int z.1), mk c z.2) 0 [some (.ref 191), some (.int x1), some (.int x2)] [] (mk c S)
  refine J.run b_M_widen_0_3 k_M_widen_0_3 rfl (show J w (d + 3) m_M_widen (n0, z0, some (.int z.1), mk c z.2) 3 [some (.ref 191), some (.int x1), some (.int x2)] [.int (2 : Int32), .int x1, .ref 191] (mk c S) from ?_)
  obtain ⟨r1, S2, h3, H⟩ := bd_e H
  refine J.callV (y := m_M_is) (av := [.int x1, .int (2 : Int32)]) (rest := []) (q := 191) l_M_120 d_M_widen_3 (isC_st rfl rfl) (c_M_is w (d + 0) c  S x1 (2 : Int32) h3) rfl (Nat.le_of_ble_eq_true rfl) ⟨Nat.le_refl _, Nat.le_refl _⟩ (show J w (d + 3) m_M_widen (n0, z0, some (.int z.1), mk c z.2) 6 [some (.ref 191), some (.int x1), some (.int x2)] [.int r1] (mk c S2) from ?_)
  refine J.zeq (tgt := 35) d_M_widen_6 rfl (fun q4 => ?_) (fun q4 => ?_)
  · have H := ite_t H q4
    refine J.run b_M_widen_35_1 k_M_widen_35_1 rfl (show J w (d + 3) m_M_widen (n0, z0, some (.int z.1), mk c z.2) 36 [some (.ref 191), some (.int x1), some (.int x2)] [.int (-1 : Int32)] (mk c S2) from ?_)
    obtain rfl := some_e H
    exact J.iret d_M_widen_36 rfl rfl
  · have H := ite_f H q4
    refine J.run b_M_widen_9_3 k_M_widen_9_3 rfl (show J w (d + 3) m_M_widen (n0, z0, some (.int z.1), mk c z.2) 13 [some (.ref 191), some (.int x1), some (.int x2)] [.int (9 : Int32), .int (1 : Int32), .int x2] (mk c S2) from ?_)
    obtain ⟨r5, S6, h7, H⟩ := bd_e H
    refine J.callS (y := m_M_in) (av := [.int x2, .int (1 : Int32), .int (9 : Int32)]) (rest := []) l_M_105 d_M_widen_13 (c_M_in w (d + 1) c  S2 x2 (1 : Int32) (9 : Int32) h7) rfl (Nat.le_of_ble_eq_true rfl) ⟨Nat.le_refl _, Nat.le_refl _⟩ (show J w (d + 3) m_M_widen (n0, z0, some (.int z.1), mk c z.2) 16 [some (.ref 191), some (.int x1), some (.int x2)] [.int r5] (mk c S6) from ?_)
    refine J.zeq (tgt := 35) d_M_widen_16 rfl (fun q8 => ?_) (fun q8 => ?_)
    · have H := ite_t H q8
      refine J.run b_M_widen_35_1 k_M_widen_35_1 rfl (show J w (d + 3) m_M_widen (n0, z0, some (.int z.1), mk c z.2) 36 [some (.ref 191), some (.int x1), some (.int x2)] [.int (-1 : Int32)] (mk c S6) from ?_)
      obtain rfl := some_e H
      exact J.iret d_M_widen_36 rfl rfl
    · have H := ite_f H q8
      refine J.run b_M_widen_19_9 k_M_widen_19_9 rfl (show J w (d + 3) m_M_widen (n0, z0, some (.int z.1), mk c z.2) 29 [some (.ref 191), some (.int x1), some (.int x2)] [.int x2, .int (((29 : Int32) + ((5 : Int32) * x1)) + (2 : Int32)), .ref 191] (mk c S6) from ?_)
      obtain ⟨r9, S10, h11, H⟩ := bd_e H
      refine J.callV (y := m_M_comes) (av := [.int (((29 : Int32) + ((5 : Int32) * x1)) + (2 : Int32)), .int x2]) (rest := []) (q := 191) l_M_145 d_M_widen_29 (isC_st rfl rfl) (c_M_comes w (d + 1) c  S6 (((29 : Int32) + ((5 : Int32) * x1)) + (2 : Int32)) x2 h11) rfl (Nat.le_of_ble_eq_true rfl) ⟨Nat.le_refl _, Nat.le_refl _⟩ (show J w (d + 3) m_M_widen (n0, z0, some (.int z.1), mk c z.2) 32 [some (.ref 191), some (.int x1), some (.int x2)] [.int r9] (mk c S10) from ?_)
      refine J.goto (tgt := 36) d_M_widen_32 rfl ?_
      obtain rfl := some_e H
      exact J.iret d_M_widen_36 rfl rfl
def b_M_day_0_3 : List Ins := [(.iload_n 1, 0, 0, 0), (.iconst (0), 0, 0, 0), (.bipush (6), 0, 0, 0)]
theorem k_M_day_0_3 : bok m_M_day 0 b_M_day_0_3 = true := by decide +kernel
def b_M_day_19_1 : List Ins := [(.iconst (-1), 0, 0, 0)]
theorem k_M_day_19_1 : bok m_M_day 19 b_M_day_19_1 = true := by decide +kernel
def b_M_day_10_3 : List Ins := [(.aload_n 0, 0, 0, 0), (.iconst (0), 0, 0, 0), (.iload_n 1, 0, 0, 0)]
theorem k_M_day_10_3 : bok m_M_day 10 b_M_day_10_3 = true := by decide +kernel
theorem d_M_day_4 : decode m_M_day.2.1 4 = .ok (.invokestatic 105, 3) := by decide +kernel
theorem d_M_day_7 : decode m_M_day.2.1 7 = .ok (.ifCond .eq (12), 3) := by decide +kernel
theorem d_M_day_20 : decode m_M_day.2.1 20 = .ok (.ireturn, 1) := by decide +kernel
theorem d_M_day_13 : decode m_M_day.2.1 13 = .ok (.invokevirtual 145, 3) := by decide +kernel
theorem d_M_day_16 : decode m_M_day.2.1 16 = .ok (.goto (4), 3) := by decide +kernel
def f_M_day  (S : hs) (x1 : Int32) : Option (Int32 × hs) := bd (f_M_in  S x1 (0 : Int32) (6 : Int32)) fun r1 S2 => (if r1 = 0 then some ((-1 : Int32), S2) else bd (f_M_comes  S2 (0 : Int32) x1) fun r5 S6 => some (r5, S6))
theorem c_M_day (w : Wd) (d : Nat) (c : cx)   (S : hs) (x1 : Int32)  {z : Int32 × hs} (H : f_M_day S x1 = some z) : Cl w (d + 2) m_M_day [.ref 191, .int x1] (mk c S) (some (.int z.1)) (mk c z.2) := by
  refine Cl.of (Nat.le_refl _) (Nat.le_refl _) (by decide +kernel) (Nat.le_of_ble_eq_true rfl) ?_
  unfold f_M_day at H
  generalize hN (mk c S) = n0
  generalize hZ (mk c S) = z0
  show J w (d + 2) m_M_day (n0, z0, some (.int z.1), mk c z.2) 0 [some (.ref 191), some (.int x1)] [] (mk c S)
  refine J.run b_M_day_0_3 k_M_day_0_3 rfl (show J w (d + 2) m_M_day (n0, z0, some (.int z.1), mk c z.2) 4 [some (.ref 191), some (.int x1)] [.int (6 : Int32), .int (0 : Int32), .int x1] (mk c S) from ?_)
  obtain ⟨r1, S2, h3, H⟩ := bd_e H
  refine J.callS (y := m_M_in) (av := [.int x1, .int (0 : Int32), .int (6 : Int32)]) (rest := []) l_M_105 d_M_day_4 (c_M_in w (d + 0) c  S x1 (0 : Int32) (6 : Int32) h3) rfl (Nat.le_of_ble_eq_true rfl) ⟨Nat.le_refl _, Nat.le_refl _⟩ (show J w (d + 2) m_M_day (n0, z0, some (.int z.1), mk c z.2) 7 [some (.ref 191), some (.int x1)] [.int r1] (mk c S2) from ?_)
  refine J.zeq (tgt := 19) d_M_day_7 rfl (fun q4 => ?_) (fun q4 => ?_)
  · have H := ite_t H q4
    refine J.run b_M_day_19_1 k_M_day_19_1 rfl (show J w (d + 2) m_M_day (n0, z0, some (.int z.1), mk c z.2) 20 [some (.ref 191), some (.int x1)] [.int (-1 : Int32)] (mk c S2) from ?_)
    obtain rfl := some_e H
    exact J.iret d_M_day_20 rfl rfl
  · have H := ite_f H q4
    refine J.run b_M_day_10_3 k_M_day_10_3 rfl (show J w (d + 2) m_M_day (n0, z0, some (.int z.1), mk c z.2) 13 [some (.ref 191), some (.int x1)] [.int x1, .int (0 : Int32), .ref 191] (mk c S2) from ?_)
    obtain ⟨r5, S6, h7, H⟩ := bd_e H
    refine J.callV (y := m_M_comes) (av := [.int (0 : Int32), .int x1]) (rest := []) (q := 191) l_M_145 d_M_day_13 (isC_st rfl rfl) (c_M_comes w (d + 0) c  S2 (0 : Int32) x1 h7) rfl (Nat.le_of_ble_eq_true rfl) ⟨Nat.le_refl _, Nat.le_refl _⟩ (show J w (d + 2) m_M_day (n0, z0, some (.int z.1), mk c z.2) 16 [some (.ref 191), some (.int x1)] [.int r5] (mk c S6) from ?_)
    refine J.goto (tgt := 20) d_M_day_16 rfl ?_
    obtain rfl := some_e H
    exact J.iret d_M_day_20 rfl rfl
def b_M_isIndex_0_3 : List Ins := [(.iload_n 0, 0, 0, 0), (.iconst (0), 0, 0, 0), (.bipush (39), 0, 0, 0)]
theorem k_M_isIndex_0_3 : bok m_M_isIndex 0 b_M_isIndex_0_3 = true := by decide +kernel
theorem d_M_isIndex_4 : decode m_M_isIndex.2.1 4 = .ok (.invokestatic 105, 3) := by decide +kernel
theorem d_M_isIndex_7 : decode m_M_isIndex.2.1 7 = .ok (.ireturn, 1) := by decide +kernel
def f_M_isIndex  (S : hs) (x0 : Int32) : Option (Int32 × hs) := bd (f_M_in  S x0 (0 : Int32) (39 : Int32)) fun r1 S2 => ck (isB r1) (some (r1, S2))
theorem c_M_isIndex (w : Wd) (d : Nat) (c : cx)   (S : hs) (x0 : Int32)  {z : Int32 × hs} (H : f_M_isIndex S x0 = some z) : Cl w (d + 2) m_M_isIndex [.int x0] (mk c S) (some (.int z.1)) (mk c z.2) := by
  refine Cl.of (Nat.le_refl _) (Nat.le_refl _) (by decide +kernel) (Nat.le_of_ble_eq_true rfl) ?_
  unfold f_M_isIndex at H
  generalize hN (mk c S) = n0
  generalize hZ (mk c S) = z0
  show J w (d + 2) m_M_isIndex (n0, z0, some (.int z.1), mk c z.2) 0 [some (.int x0)] [] (mk c S)
  refine J.run b_M_isIndex_0_3 k_M_isIndex_0_3 rfl (show J w (d + 2) m_M_isIndex (n0, z0, some (.int z.1), mk c z.2) 4 [some (.int x0)] [.int (39 : Int32), .int (0 : Int32), .int x0] (mk c S) from ?_)
  obtain ⟨r1, S2, h3, H⟩ := bd_e H
  refine J.callS (y := m_M_in) (av := [.int x0, .int (0 : Int32), .int (39 : Int32)]) (rest := []) l_M_105 d_M_isIndex_4 (c_M_in w (d + 0) c  S x0 (0 : Int32) (39 : Int32) h3) rfl (Nat.le_of_ble_eq_true rfl) ⟨Nat.le_refl _, Nat.le_refl _⟩ (show J w (d + 2) m_M_isIndex (n0, z0, some (.int z.1), mk c z.2) 7 [some (.int x0)] [.int r1] (mk c S2) from ?_)
  obtain ⟨g4, H⟩ := ck_e H
  obtain rfl := some_e H
  exact J.nret d_M_isIndex_7 rfl (isB_n g4) rfl
def b_M_kindOf_0_2 : List Ins := [(.aload_n 0, 0, 0, 0), (.iload_n 1, 0, 0, 0)]
theorem k_M_kindOf_0_2 : bok m_M_kindOf 0 b_M_kindOf_0_2 = true := by decide +kernel
def b_M_kindOf_29_1 : List Ins := [(.iconst (0), 0, 0, 0)]
theorem k_M_kindOf_29_1 : bok m_M_kindOf 29 b_M_kindOf_29_1 = true := by decide +kernel
def b_M_kindOf_8_2 : List Ins := [(.aload_n 0, 0, 0, 0), (.iload_n 2, 0, 0, 0)]
theorem k_M_kindOf_8_2 : bok m_M_kindOf 8 b_M_kindOf_8_2 = true := by decide +kernel
def b_M_kindOf_16_2 : List Ins := [(.aload_n 0, 0, 0, 0), (.iload_n 1, 0, 0, 0)]
theorem k_M_kindOf_16_2 : bok m_M_kindOf 16 b_M_kindOf_16_2 = true := by decide +kernel
def b_M_kindOf_21_2 : List Ins := [(.aload_n 0, 0, 0, 0), (.iload_n 2, 0, 0, 0)]
theorem k_M_kindOf_21_2 : bok m_M_kindOf 21 b_M_kindOf_21_2 = true := by decide +kernel
def b_M_kindOf_31_3 : List Ins := [(.aload_n 0, 0, 0, 0), (.aload_n 0, 0, 0, 0), (.iload_n 1, 0, 0, 0)]
theorem k_M_kindOf_31_3 : bok m_M_kindOf 31 b_M_kindOf_31_3 = true := by decide +kernel
def b_M_kindOf_40_3 : List Ins := [(.aload_n 0, 0, 0, 0), (.aload_n 0, 0, 0, 0), (.iload_n 1, 0, 0, 0)]
theorem k_M_kindOf_40_3 : bok m_M_kindOf 40 b_M_kindOf_40_3 = true := by decide +kernel
def b_M_kindOf_49_5 : List Ins := [(.isub, 0, 0, 0), (.istore_n 3, 0, 0, 0), (.aload_n 0, 0, 0, 0), (.aload_n 0, 0, 0, 0), (.iload_n 1, 0, 0, 0)]
theorem k_M_kindOf_49_5 : bok m_M_kindOf 49 b_M_kindOf_49_5 = true := by decide +kernel
def b_M_kindOf_60_3 : List Ins := [(.aload_n 0, 0, 0, 0), (.aload_n 0, 0, 0, 0), (.iload_n 1, 0, 0, 0)]
theorem k_M_kindOf_60_3 : bok m_M_kindOf 60 b_M_kindOf_60_3 = true := by decide +kernel
def b_M_kindOf_69_5 : List Ins := [(.isub, 0, 0, 0), (.istore 4, 0, 0, 0), (.aload_n 0, 0, 0, 0), (.aload_n 0, 0, 0, 0), (.iload_n 2, 0, 0, 0)]
theorem k_M_kindOf_69_5 : bok m_M_kindOf 69 b_M_kindOf_69_5 = true := by decide +kernel
def b_M_kindOf_81_3 : List Ins := [(.aload_n 0, 0, 0, 0), (.aload_n 0, 0, 0, 0), (.iload_n 2, 0, 0, 0)]
theorem k_M_kindOf_81_3 : bok m_M_kindOf 81 b_M_kindOf_81_3 = true := by decide +kernel
def b_M_kindOf_90_5 : List Ins := [(.isub, 0, 0, 0), (.istore 5, 0, 0, 0), (.aload_n 0, 0, 0, 0), (.aload_n 0, 0, 0, 0), (.iload_n 2, 0, 0, 0)]
theorem k_M_kindOf_90_5 : bok m_M_kindOf 90 b_M_kindOf_90_5 = true := by decide +kernel
def b_M_kindOf_102_3 : List Ins := [(.aload_n 0, 0, 0, 0), (.aload_n 0, 0, 0, 0), (.iload_n 2, 0, 0, 0)]
theorem k_M_kindOf_102_3 : bok m_M_kindOf 102 b_M_kindOf_102_3 = true := by decide +kernel
def b_M_kindOf_111_19 : List Ins := [(.isub, 0, 0, 0), (.istore 6, 0, 0, 0), (.iload_n 3, 0, 0, 0), (.iload 6, 0, 0, 0), (.imul, 0, 0, 0), (.iload 4, 0, 0, 0), (.iload 5, 0, 0, 0), (.imul, 0, 0, 0), (.isub, 0, 0, 0), (.istore 7, 0, 0, 0), (.iload_n 3, 0, 0, 0), (.iload 5, 0, 0, 0), (.imul, 0, 0, 0), (.iload 4, 0, 0, 0), (.iload 6, 0, 0, 0), (.imul, 0, 0, 0), (.iadd, 0, 0, 0), (.istore 8, 0, 0, 0), (.iload 7, 0, 0, 0)]
theorem k_M_kindOf_111_19 : bok m_M_kindOf 111 b_M_kindOf_111_19 = true := by decide +kernel
def b_M_kindOf_156_1 : List Ins := [(.iload 7, 0, 0, 0)]
theorem k_M_kindOf_156_1 : bok m_M_kindOf 156 b_M_kindOf_156_1 = true := by decide +kernel
def b_M_kindOf_165_1 : List Ins := [(.iload 8, 0, 0, 0)]
theorem k_M_kindOf_165_1 : bok m_M_kindOf 165 b_M_kindOf_165_1 = true := by decide +kernel
def b_M_kindOf_174_1 : List Ins := [(.iconst (2), 0, 0, 0)]
theorem k_M_kindOf_174_1 : bok m_M_kindOf 174 b_M_kindOf_174_1 = true := by decide +kernel
def b_M_kindOf_170_1 : List Ins := [(.iconst (3), 0, 0, 0)]
theorem k_M_kindOf_170_1 : bok m_M_kindOf 170 b_M_kindOf_170_1 = true := by decide +kernel
def b_M_kindOf_161_1 : List Ins := [(.iconst (4), 0, 0, 0)]
theorem k_M_kindOf_161_1 : bok m_M_kindOf 161 b_M_kindOf_161_1 = true := by decide +kernel
def b_M_kindOf_143_1 : List Ins := [(.iload 8, 0, 0, 0)]
theorem k_M_kindOf_143_1 : bok m_M_kindOf 143 b_M_kindOf_143_1 = true := by decide +kernel
def b_M_kindOf_152_1 : List Ins := [(.iconst (5), 0, 0, 0)]
theorem k_M_kindOf_152_1 : bok m_M_kindOf 152 b_M_kindOf_152_1 = true := by decide +kernel
def b_M_kindOf_148_1 : List Ins := [(.iconst (1), 0, 0, 0)]
theorem k_M_kindOf_148_1 : bok m_M_kindOf 148 b_M_kindOf_148_1 = true := by decide +kernel
theorem d_M_kindOf_2 : decode m_M_kindOf.2.1 2 = .ok (.invokevirtual 123, 3) := by decide +kernel
theorem d_M_kindOf_5 : decode m_M_kindOf.2.1 5 = .ok (.ifCond .eq (24), 3) := by decide +kernel
theorem d_M_kindOf_30 : decode m_M_kindOf.2.1 30 = .ok (.ireturn, 1) := by decide +kernel
theorem d_M_kindOf_10 : decode m_M_kindOf.2.1 10 = .ok (.invokevirtual 123, 3) := by decide +kernel
theorem d_M_kindOf_13 : decode m_M_kindOf.2.1 13 = .ok (.ifCond .eq (16), 3) := by decide +kernel
theorem d_M_kindOf_18 : decode m_M_kindOf.2.1 18 = .ok (.invokevirtual 130, 3) := by decide +kernel
theorem d_M_kindOf_23 : decode m_M_kindOf.2.1 23 = .ok (.invokevirtual 127, 3) := by decide +kernel
theorem d_M_kindOf_26 : decode m_M_kindOf.2.1 26 = .ok (.if_icmp .eq (5), 3) := by decide +kernel
theorem d_M_kindOf_34 : decode m_M_kindOf.2.1 34 = .ok (.invokevirtual 130, 3) := by decide +kernel
theorem d_M_kindOf_37 : decode m_M_kindOf.2.1 37 = .ok (.invokevirtual 109, 3) := by decide +kernel
theorem d_M_kindOf_43 : decode m_M_kindOf.2.1 43 = .ok (.invokevirtual 127, 3) := by decide +kernel
theorem d_M_kindOf_46 : decode m_M_kindOf.2.1 46 = .ok (.invokevirtual 109, 3) := by decide +kernel
theorem d_M_kindOf_54 : decode m_M_kindOf.2.1 54 = .ok (.invokevirtual 130, 3) := by decide +kernel
theorem d_M_kindOf_57 : decode m_M_kindOf.2.1 57 = .ok (.invokevirtual 113, 3) := by decide +kernel
theorem d_M_kindOf_63 : decode m_M_kindOf.2.1 63 = .ok (.invokevirtual 127, 3) := by decide +kernel
theorem d_M_kindOf_66 : decode m_M_kindOf.2.1 66 = .ok (.invokevirtual 113, 3) := by decide +kernel
theorem d_M_kindOf_75 : decode m_M_kindOf.2.1 75 = .ok (.invokevirtual 130, 3) := by decide +kernel
theorem d_M_kindOf_78 : decode m_M_kindOf.2.1 78 = .ok (.invokevirtual 109, 3) := by decide +kernel
theorem d_M_kindOf_84 : decode m_M_kindOf.2.1 84 = .ok (.invokevirtual 127, 3) := by decide +kernel
theorem d_M_kindOf_87 : decode m_M_kindOf.2.1 87 = .ok (.invokevirtual 109, 3) := by decide +kernel
theorem d_M_kindOf_96 : decode m_M_kindOf.2.1 96 = .ok (.invokevirtual 130, 3) := by decide +kernel
theorem d_M_kindOf_99 : decode m_M_kindOf.2.1 99 = .ok (.invokevirtual 113, 3) := by decide +kernel
theorem d_M_kindOf_105 : decode m_M_kindOf.2.1 105 = .ok (.invokevirtual 127, 3) := by decide +kernel
theorem d_M_kindOf_108 : decode m_M_kindOf.2.1 108 = .ok (.invokevirtual 113, 3) := by decide +kernel
theorem d_M_kindOf_140 : decode m_M_kindOf.2.1 140 = .ok (.ifCond .ne (16), 3) := by decide +kernel
theorem d_M_kindOf_158 : decode m_M_kindOf.2.1 158 = .ok (.ifCond .ge (7), 3) := by decide +kernel
theorem d_M_kindOf_167 : decode m_M_kindOf.2.1 167 = .ok (.ifCond .ge (7), 3) := by decide +kernel
theorem d_M_kindOf_175 : decode m_M_kindOf.2.1 175 = .ok (.ireturn, 1) := by decide +kernel
theorem d_M_kindOf_171 : decode m_M_kindOf.2.1 171 = .ok (.goto (4), 3) := by decide +kernel
theorem d_M_kindOf_162 : decode m_M_kindOf.2.1 162 = .ok (.goto (13), 3) := by decide +kernel
theorem d_M_kindOf_145 : decode m_M_kindOf.2.1 145 = .ok (.ifCond .le (7), 3) := by decide +kernel
theorem d_M_kindOf_153 : decode m_M_kindOf.2.1 153 = .ok (.goto (22), 3) := by decide +kernel
theorem d_M_kindOf_149 : decode m_M_kindOf.2.1 149 = .ok (.goto (26), 3) := by decide +kernel
def f_M_kindOf  (S : hs) (x1 : Int32) (x2 : Int32) : Option (Int32 × hs) := bd (f_M_isCourse  S x1) fun r1 S2 => (if r1 = 0 then some ((0 : Int32), S2) else bd (f_M_isCourse  S2 x2) fun r5 S6 => (if r5 = 0 then some ((0 : Int32), S6) else bd (f_M_endOf  S6 x1) fun r9 S10 => bd (f_M_beginOf  S10 x2) fun r12 S13 => (if r9 = r12 then bd (f_M_endOf  S13 x1) fun r16 S17 => bd (f_M_xOf  S17 r16) fun r19 S20 => bd (f_M_beginOf  S20 x1) fun r22 S23 => bd (f_M_xOf  S23 r22) fun r25 S26 => bd (f_M_endOf  S26 x1) fun r28 S29 => bd (f_M_yOf  S29 r28) fun r31 S32 => bd (f_M_beginOf  S32 x1) fun r34 S35 => bd (f_M_yOf  S35 r34) fun r37 S38 => bd (f_M_endOf  S38 x2) fun r40 S41 => bd (f_M_xOf  S41 r40) fun r43 S44 => bd (f_M_beginOf  S44 x2) fun r46 S47 => bd (f_M_xOf  S47 r46) fun r49 S50 => bd (f_M_endOf  S50 x2) fun r52 S53 => bd (f_M_yOf  S53 r52) fun r55 S56 => bd (f_M_beginOf  S56 x2) fun r58 S59 => bd (f_M_yOf  S59 r58) fun r61 S62 => (if (((r19 - r25) * (r55 - r61)) - ((r31 - r37) * (r43 - r49))) = 0 then (if (((r19 - r25) * (r43 - r49)) + ((r31 - r37) * (r55 - r61))) ≤ 0 then some ((5 : Int32), S62) else some ((1 : Int32), S62)) else (if 0 ≤ (((r19 - r25) * (r55 - r61)) - ((r31 - r37) * (r43 - r49))) then (if 0 ≤ (((r19 - r25) * (r43 - r49)) + ((r31 - r37) * (r55 - r61))) then some ((2 : Int32), S62) else some ((3 : Int32), S62)) else some ((4 : Int32), S62))) else some ((0 : Int32), S13))))
theorem c_M_kindOf (w : Wd) (d : Nat) (c : cx)   (S : hs) (x1 : Int32) (x2 : Int32)  {z : Int32 × hs} (H : f_M_kindOf S x1 x2 = some z) : Cl w (d + 3) m_M_kindOf [.ref 191, .int x1, .int x2] (mk c S) (some (.int z.1)) (mk c z.2) := by
  refine Cl.of (Nat.le_refl _) (Nat.le_refl _) (by decide +kernel) (Nat.le_of_ble_eq_true rfl) ?_
  unfold f_M_kindOf at H
  generalize hN (mk c S) = n0
  generalize hZ (mk c S) = z0
  show J w (d + 3) m_M_kindOf (n0, z0, some (.int z.1), mk c z.2) 0 [some (.ref 191), some (.int x1), some (.int x2), none, none, none, none, none, none] [] (mk c S)
  refine J.run b_M_kindOf_0_2 k_M_kindOf_0_2 rfl (show J w (d + 3) m_M_kindOf (n0, z0, some (.int z.1), mk c z.2) 2 [some (.ref 191), some (.int x1), some (.int x2), none, none, none, none, none, none] [.int x1, .ref 191] (mk c S) from ?_)
  obtain ⟨r1, S2, h3, H⟩ := bd_e H
  refine J.callV (y := m_M_isCourse) (av := [.int x1]) (rest := []) (q := 191) l_M_123 d_M_kindOf_2 (isC_st rfl rfl) (c_M_isCourse w (d + 0) c  S x1 h3) rfl (Nat.le_of_ble_eq_true rfl) ⟨Nat.le_refl _, Nat.le_refl _⟩ (show J w (d + 3) m_M_kindOf (n0, z0, some (.int z.1), mk c z.2) 5 [some (.ref 191), some (.int x1), some (.int x2), none, none, none, none, none, none] [.int r1] (mk c S2) from ?_)
  refine J.zeq (tgt := 29) d_M_kindOf_5 rfl (fun q4 => ?_) (fun q4 => ?_)
  · have H := ite_t H q4
    refine J.run b_M_kindOf_29_1 k_M_kindOf_29_1 rfl (show J w (d + 3) m_M_kindOf (n0, z0, some (.int z.1), mk c z.2) 30 [some (.ref 191), some (.int x1), some (.int x2), none, none, none, none, none, none] [.int (0 : Int32)] (mk c S2) from ?_)
    obtain rfl := some_e H
    exact J.iret d_M_kindOf_30 rfl rfl
  · have H := ite_f H q4
    refine J.run b_M_kindOf_8_2 k_M_kindOf_8_2 rfl (show J w (d + 3) m_M_kindOf (n0, z0, some (.int z.1), mk c z.2) 10 [some (.ref 191), some (.int x1), some (.int x2), none, none, none, none, none, none] [.int x2, .ref 191] (mk c S2) from ?_)
    obtain ⟨r5, S6, h7, H⟩ := bd_e H
    refine J.callV (y := m_M_isCourse) (av := [.int x2]) (rest := []) (q := 191) l_M_123 d_M_kindOf_10 (isC_st rfl rfl) (c_M_isCourse w (d + 0) c  S2 x2 h7) rfl (Nat.le_of_ble_eq_true rfl) ⟨Nat.le_refl _, Nat.le_refl _⟩ (show J w (d + 3) m_M_kindOf (n0, z0, some (.int z.1), mk c z.2) 13 [some (.ref 191), some (.int x1), some (.int x2), none, none, none, none, none, none] [.int r5] (mk c S6) from ?_)
    refine J.zeq (tgt := 29) d_M_kindOf_13 rfl (fun q8 => ?_) (fun q8 => ?_)
    · have H := ite_t H q8
      refine J.run b_M_kindOf_29_1 k_M_kindOf_29_1 rfl (show J w (d + 3) m_M_kindOf (n0, z0, some (.int z.1), mk c z.2) 30 [some (.ref 191), some (.int x1), some (.int x2), none, none, none, none, none, none] [.int (0 : Int32)] (mk c S6) from ?_)
      obtain rfl := some_e H
      exact J.iret d_M_kindOf_30 rfl rfl
    · have H := ite_f H q8
      refine J.run b_M_kindOf_16_2 k_M_kindOf_16_2 rfl (show J w (d + 3) m_M_kindOf (n0, z0, some (.int z.1), mk c z.2) 18 [some (.ref 191), some (.int x1), some (.int x2), none, none, none, none, none, none] [.int x1, .ref 191] (mk c S6) from ?_)
      obtain ⟨r9, S10, h11, H⟩ := bd_e H
      refine J.callV (y := m_M_endOf) (av := [.int x1]) (rest := []) (q := 191) l_M_130 d_M_kindOf_18 (isC_st rfl rfl) (c_M_endOf w (d + 0) c  S6 x1 h11) rfl (Nat.le_of_ble_eq_true rfl) ⟨Nat.le_refl _, Nat.le_refl _⟩ (show J w (d + 3) m_M_kindOf (n0, z0, some (.int z.1), mk c z.2) 21 [some (.ref 191), some (.int x1), some (.int x2), none, none, none, none, none, none] [.int r9] (mk c S10) from ?_)
      refine J.run b_M_kindOf_21_2 k_M_kindOf_21_2 rfl (show J w (d + 3) m_M_kindOf (n0, z0, some (.int z.1), mk c z.2) 23 [some (.ref 191), some (.int x1), some (.int x2), none, none, none, none, none, none] [.int x2, .ref 191, .int r9] (mk c S10) from ?_)
      obtain ⟨r12, S13, h14, H⟩ := bd_e H
      refine J.callV (y := m_M_beginOf) (av := [.int x2]) (rest := [.int r9]) (q := 191) l_M_127 d_M_kindOf_23 (isC_st rfl rfl) (c_M_beginOf w (d + 0) c  S10 x2 h14) rfl (Nat.le_of_ble_eq_true rfl) ⟨Nat.le_refl _, Nat.le_refl _⟩ (show J w (d + 3) m_M_kindOf (n0, z0, some (.int z.1), mk c z.2) 26 [some (.ref 191), some (.int x1), some (.int x2), none, none, none, none, none, none] [.int r12, .int r9] (mk c S13) from ?_)
      refine J.ceq (tgt := 31) d_M_kindOf_26 rfl (fun q15 => ?_) (fun q15 => ?_)
      · have H := ite_t H q15
        refine J.run b_M_kindOf_31_3 k_M_kindOf_31_3 rfl (show J w (d + 3) m_M_kindOf (n0, z0, some (.int z.1), mk c z.2) 34 [some (.ref 191), some (.int x1), some (.int x2), none, none, none, none, none, none] [.int x1, .ref 191, .ref 191] (mk c S13) from ?_)
        obtain ⟨r16, S17, h18, H⟩ := bd_e H
        refine J.callV (y := m_M_endOf) (av := [.int x1]) (rest := [.ref 191]) (q := 191) l_M_130 d_M_kindOf_34 (isC_st rfl rfl) (c_M_endOf w (d + 0) c  S13 x1 h18) rfl (Nat.le_of_ble_eq_true rfl) ⟨Nat.le_refl _, Nat.le_refl _⟩ (show J w (d + 3) m_M_kindOf (n0, z0, some (.int z.1), mk c z.2) 37 [some (.ref 191), some (.int x1), some (.int x2), none, none, none, none, none, none] [.int r16, .ref 191] (mk c S17) from ?_)
        obtain ⟨r19, S20, h21, H⟩ := bd_e H
        refine J.callV (y := m_M_xOf) (av := [.int r16]) (rest := []) (q := 191) l_M_109 d_M_kindOf_37 (isC_st rfl rfl) (c_M_xOf w (d + 1) c  S17 r16 h21) rfl (Nat.le_of_ble_eq_true rfl) ⟨Nat.le_refl _, Nat.le_refl _⟩ (show J w (d + 3) m_M_kindOf (n0, z0, some (.int z.1), mk c z.2) 40 [some (.ref 191), some (.int x1), some (.int x2), none, none, none, none, none, none] [.int r19] (mk c S20) from ?_)
        refine J.run b_M_kindOf_40_3 k_M_kindOf_40_3 rfl (show J w (d + 3) m_M_kindOf (n0, z0, some (.int z.1), mk c z.2) 43 [some (.ref 191), some (.int x1), some (.int x2), none, none, none, none, none, none] [.int x1, .ref 191, .ref 191, .int r19] (mk c S20) from ?_)
        obtain ⟨r22, S23, h24, H⟩ := bd_e H
        refine J.callV (y := m_M_beginOf) (av := [.int x1]) (rest := [.ref 191, .int r19]) (q := 191) l_M_127 d_M_kindOf_43 (isC_st rfl rfl) (c_M_beginOf w (d + 0) c  S20 x1 h24) rfl (Nat.le_of_ble_eq_true rfl) ⟨Nat.le_refl _, Nat.le_refl _⟩ (show J w (d + 3) m_M_kindOf (n0, z0, some (.int z.1), mk c z.2) 46 [some (.ref 191), some (.int x1), some (.int x2), none, none, none, none, none, none] [.int r22, .ref 191, .int r19] (mk c S23) from ?_)
        obtain ⟨r25, S26, h27, H⟩ := bd_e H
        refine J.callV (y := m_M_xOf) (av := [.int r22]) (rest := [.int r19]) (q := 191) l_M_109 d_M_kindOf_46 (isC_st rfl rfl) (c_M_xOf w (d + 1) c  S23 r22 h27) rfl (Nat.le_of_ble_eq_true rfl) ⟨Nat.le_refl _, Nat.le_refl _⟩ (show J w (d + 3) m_M_kindOf (n0, z0, some (.int z.1), mk c z.2) 49 [some (.ref 191), some (.int x1), some (.int x2), none, none, none, none, none, none] [.int r25, .int r19] (mk c S26) from ?_)
        refine J.run b_M_kindOf_49_5 k_M_kindOf_49_5 rfl (show J w (d + 3) m_M_kindOf (n0, z0, some (.int z.1), mk c z.2) 54 [some (.ref 191), some (.int x1), some (.int x2), some (.int (r19 - r25)), none, none, none, none, none] [.int x1, .ref 191, .ref 191] (mk c S26) from ?_)
        obtain ⟨r28, S29, h30, H⟩ := bd_e H
        refine J.callV (y := m_M_endOf) (av := [.int x1]) (rest := [.ref 191]) (q := 191) l_M_130 d_M_kindOf_54 (isC_st rfl rfl) (c_M_endOf w (d + 0) c  S26 x1 h30) rfl (Nat.le_of_ble_eq_true rfl) ⟨Nat.le_refl _, Nat.le_refl _⟩ (show J w (d + 3) m_M_kindOf (n0, z0, some (.int z.1), mk c z.2) 57 [some (.ref 191), some (.int x1), some (.int x2), some (.int (r19 - r25)), none, none, none, none, none] [.int r28, .ref 191] (mk c S29) from ?_)
        obtain ⟨r31, S32, h33, H⟩ := bd_e H
        refine J.callV (y := m_M_yOf) (av := [.int r28]) (rest := []) (q := 191) l_M_113 d_M_kindOf_57 (isC_st rfl rfl) (c_M_yOf w (d + 1) c  S29 r28 h33) rfl (Nat.le_of_ble_eq_true rfl) ⟨Nat.le_refl _, Nat.le_refl _⟩ (show J w (d + 3) m_M_kindOf (n0, z0, some (.int z.1), mk c z.2) 60 [some (.ref 191), some (.int x1), some (.int x2), some (.int (r19 - r25)), none, none, none, none, none] [.int r31] (mk c S32) from ?_)
        refine J.run b_M_kindOf_60_3 k_M_kindOf_60_3 rfl (show J w (d + 3) m_M_kindOf (n0, z0, some (.int z.1), mk c z.2) 63 [some (.ref 191), some (.int x1), some (.int x2), some (.int (r19 - r25)), none, none, none, none, none] [.int x1, .ref 191, .ref 191, .int r31] (mk c S32) from ?_)
        obtain ⟨r34, S35, h36, H⟩ := bd_e H
        refine J.callV (y := m_M_beginOf) (av := [.int x1]) (rest := [.ref 191, .int r31]) (q := 191) l_M_127 d_M_kindOf_63 (isC_st rfl rfl) (c_M_beginOf w (d + 0) c  S32 x1 h36) rfl (Nat.le_of_ble_eq_true rfl) ⟨Nat.le_refl _, Nat.le_refl _⟩ (show J w (d + 3) m_M_kindOf (n0, z0, some (.int z.1), mk c z.2) 66 [some (.ref 191), some (.int x1), some (.int x2), some (.int (r19 - r25)), none, none, none, none, none] [.int r34, .ref 191, .int r31] (mk c S35) from ?_)
        obtain ⟨r37, S38, h39, H⟩ := bd_e H
        refine J.callV (y := m_M_yOf) (av := [.int r34]) (rest := [.int r31]) (q := 191) l_M_113 d_M_kindOf_66 (isC_st rfl rfl) (c_M_yOf w (d + 1) c  S35 r34 h39) rfl (Nat.le_of_ble_eq_true rfl) ⟨Nat.le_refl _, Nat.le_refl _⟩ (show J w (d + 3) m_M_kindOf (n0, z0, some (.int z.1), mk c z.2) 69 [some (.ref 191), some (.int x1), some (.int x2), some (.int (r19 - r25)), none, none, none, none, none] [.int r37, .int r31] (mk c S38) from ?_)
        refine J.run b_M_kindOf_69_5 k_M_kindOf_69_5 rfl (show J w (d + 3) m_M_kindOf (n0, z0, some (.int z.1), mk c z.2) 75 [some (.ref 191), some (.int x1), some (.int x2), some (.int (r19 - r25)), some (.int (r31 - r37)), none, none, none, none] [.int x2, .ref 191, .ref 191] (mk c S38) from ?_)
        obtain ⟨r40, S41, h42, H⟩ := bd_e H
        refine J.callV (y := m_M_endOf) (av := [.int x2]) (rest := [.ref 191]) (q := 191) l_M_130 d_M_kindOf_75 (isC_st rfl rfl) (c_M_endOf w (d + 0) c  S38 x2 h42) rfl (Nat.le_of_ble_eq_true rfl) ⟨Nat.le_refl _, Nat.le_refl _⟩ (show J w (d + 3) m_M_kindOf (n0, z0, some (.int z.1), mk c z.2) 78 [some (.ref 191), some (.int x1), some (.int x2), some (.int (r19 - r25)), some (.int (r31 - r37)), none, none, none, none] [.int r40, .ref 191] (mk c S41) from ?_)
        obtain ⟨r43, S44, h45, H⟩ := bd_e H
        refine J.callV (y := m_M_xOf) (av := [.int r40]) (rest := []) (q := 191) l_M_109 d_M_kindOf_78 (isC_st rfl rfl) (c_M_xOf w (d + 1) c  S41 r40 h45) rfl (Nat.le_of_ble_eq_true rfl) ⟨Nat.le_refl _, Nat.le_refl _⟩ (show J w (d + 3) m_M_kindOf (n0, z0, some (.int z.1), mk c z.2) 81 [some (.ref 191), some (.int x1), some (.int x2), some (.int (r19 - r25)), some (.int (r31 - r37)), none, none, none, none] [.int r43] (mk c S44) from ?_)
        refine J.run b_M_kindOf_81_3 k_M_kindOf_81_3 rfl (show J w (d + 3) m_M_kindOf (n0, z0, some (.int z.1), mk c z.2) 84 [some (.ref 191), some (.int x1), some (.int x2), some (.int (r19 - r25)), some (.int (r31 - r37)), none, none, none, none] [.int x2, .ref 191, .ref 191, .int r43] (mk c S44) from ?_)
        obtain ⟨r46, S47, h48, H⟩ := bd_e H
        refine J.callV (y := m_M_beginOf) (av := [.int x2]) (rest := [.ref 191, .int r43]) (q := 191) l_M_127 d_M_kindOf_84 (isC_st rfl rfl) (c_M_beginOf w (d + 0) c  S44 x2 h48) rfl (Nat.le_of_ble_eq_true rfl) ⟨Nat.le_refl _, Nat.le_refl _⟩ (show J w (d + 3) m_M_kindOf (n0, z0, some (.int z.1), mk c z.2) 87 [some (.ref 191), some (.int x1), some (.int x2), some (.int (r19 - r25)), some (.int (r31 - r37)), none, none, none, none] [.int r46, .ref 191, .int r43] (mk c S47) from ?_)
        obtain ⟨r49, S50, h51, H⟩ := bd_e H
        refine J.callV (y := m_M_xOf) (av := [.int r46]) (rest := [.int r43]) (q := 191) l_M_109 d_M_kindOf_87 (isC_st rfl rfl) (c_M_xOf w (d + 1) c  S47 r46 h51) rfl (Nat.le_of_ble_eq_true rfl) ⟨Nat.le_refl _, Nat.le_refl _⟩ (show J w (d + 3) m_M_kindOf (n0, z0, some (.int z.1), mk c z.2) 90 [some (.ref 191), some (.int x1), some (.int x2), some (.int (r19 - r25)), some (.int (r31 - r37)), none, none, none, none] [.int r49, .int r43] (mk c S50) from ?_)
        refine J.run b_M_kindOf_90_5 k_M_kindOf_90_5 rfl (show J w (d + 3) m_M_kindOf (n0, z0, some (.int z.1), mk c z.2) 96 [some (.ref 191), some (.int x1), some (.int x2), some (.int (r19 - r25)), some (.int (r31 - r37)), some (.int (r43 - r49)), none, none, none] [.int x2, .ref 191, .ref 191] (mk c S50) from ?_)
        obtain ⟨r52, S53, h54, H⟩ := bd_e H
        refine J.callV (y := m_M_endOf) (av := [.int x2]) (rest := [.ref 191]) (q := 191) l_M_130 d_M_kindOf_96 (isC_st rfl rfl) (c_M_endOf w (d + 0) c  S50 x2 h54) rfl (Nat.le_of_ble_eq_true rfl) ⟨Nat.le_refl _, Nat.le_refl _⟩ (show J w (d + 3) m_M_kindOf (n0, z0, some (.int z.1), mk c z.2) 99 [some (.ref 191), some (.int x1), some (.int x2), some (.int (r19 - r25)), some (.int (r31 - r37)), some (.int (r43 - r49)), none, none, none] [.int r52, .ref 191] (mk c S53) from ?_)
        obtain ⟨r55, S56, h57, H⟩ := bd_e H
        refine J.callV (y := m_M_yOf) (av := [.int r52]) (rest := []) (q := 191) l_M_113 d_M_kindOf_99 (isC_st rfl rfl) (c_M_yOf w (d + 1) c  S53 r52 h57) rfl (Nat.le_of_ble_eq_true rfl) ⟨Nat.le_refl _, Nat.le_refl _⟩ (show J w (d + 3) m_M_kindOf (n0, z0, some (.int z.1), mk c z.2) 102 [some (.ref 191), some (.int x1), some (.int x2), some (.int (r19 - r25)), some (.int (r31 - r37)), some (.int (r43 - r49)), none, none, none] [.int r55] (mk c S56) from ?_)
        refine J.run b_M_kindOf_102_3 k_M_kindOf_102_3 rfl (show J w (d + 3) m_M_kindOf (n0, z0, some (.int z.1), mk c z.2) 105 [some (.ref 191), some (.int x1), some (.int x2), some (.int (r19 - r25)), some (.int (r31 - r37)), some (.int (r43 - r49)), none, none, none] [.int x2, .ref 191, .ref 191, .int r55] (mk c S56) from ?_)
        obtain ⟨r58, S59, h60, H⟩ := bd_e H
        refine J.callV (y := m_M_beginOf) (av := [.int x2]) (rest := [.ref 191, .int r55]) (q := 191) l_M_127 d_M_kindOf_105 (isC_st rfl rfl) (c_M_beginOf w (d + 0) c  S56 x2 h60) rfl (Nat.le_of_ble_eq_true rfl) ⟨Nat.le_refl _, Nat.le_refl _⟩ (show J w (d + 3) m_M_kindOf (n0, z0, some (.int z.1), mk c z.2) 108 [some (.ref 191), some (.int x1), some (.int x2), some (.int (r19 - r25)), some (.int (r31 - r37)), some (.int (r43 - r49)), none, none, none] [.int r58, .ref 191, .int r55] (mk c S59) from ?_)
        obtain ⟨r61, S62, h63, H⟩ := bd_e H
        refine J.callV (y := m_M_yOf) (av := [.int r58]) (rest := [.int r55]) (q := 191) l_M_113 d_M_kindOf_108 (isC_st rfl rfl) (c_M_yOf w (d + 1) c  S59 r58 h63) rfl (Nat.le_of_ble_eq_true rfl) ⟨Nat.le_refl _, Nat.le_refl _⟩ (show J w (d + 3) m_M_kindOf (n0, z0, some (.int z.1), mk c z.2) 111 [some (.ref 191), some (.int x1), some (.int x2), some (.int (r19 - r25)), some (.int (r31 - r37)), some (.int (r43 - r49)), none, none, none] [.int r61, .int r55] (mk c S62) from ?_)
        refine J.run b_M_kindOf_111_19 k_M_kindOf_111_19 rfl (show J w (d + 3) m_M_kindOf (n0, z0, some (.int z.1), mk c z.2) 140 [some (.ref 191), some (.int x1), some (.int x2), some (.int (r19 - r25)), some (.int (r31 - r37)), some (.int (r43 - r49)), some (.int (r55 - r61)), some (.int (((r19 - r25) * (r55 - r61)) - ((r31 - r37) * (r43 - r49)))), some (.int (((r19 - r25) * (r43 - r49)) + ((r31 - r37) * (r55 - r61))))] [.int (((r19 - r25) * (r55 - r61)) - ((r31 - r37) * (r43 - r49)))] (mk c S62) from ?_)
        refine J.zne (tgt := 156) d_M_kindOf_140 rfl (fun q64 => ?_) (fun q64 => ?_)
        · have H := ite_f H q64
          refine J.run b_M_kindOf_156_1 k_M_kindOf_156_1 rfl (show J w (d + 3) m_M_kindOf (n0, z0, some (.int z.1), mk c z.2) 158 [some (.ref 191), some (.int x1), some (.int x2), some (.int (r19 - r25)), some (.int (r31 - r37)), some (.int (r43 - r49)), some (.int (r55 - r61)), some (.int (((r19 - r25) * (r55 - r61)) - ((r31 - r37) * (r43 - r49)))), some (.int (((r19 - r25) * (r43 - r49)) + ((r31 - r37) * (r55 - r61))))] [.int (((r19 - r25) * (r55 - r61)) - ((r31 - r37) * (r43 - r49)))] (mk c S62) from ?_)
          refine J.zge (tgt := 165) d_M_kindOf_158 rfl (fun q65 => ?_) (fun q65 => ?_)
          · have H := ite_t H q65
            refine J.run b_M_kindOf_165_1 k_M_kindOf_165_1 rfl (show J w (d + 3) m_M_kindOf (n0, z0, some (.int z.1), mk c z.2) 167 [some (.ref 191), some (.int x1), some (.int x2), some (.int (r19 - r25)), some (.int (r31 - r37)), some (.int (r43 - r49)), some (.int (r55 - r61)), some (.int (((r19 - r25) * (r55 - r61)) - ((r31 - r37) * (r43 - r49)))), some (.int (((r19 - r25) * (r43 - r49)) + ((r31 - r37) * (r55 - r61))))] [.int (((r19 - r25) * (r43 - r49)) + ((r31 - r37) * (r55 - r61)))] (mk c S62) from ?_)
            refine J.zge (tgt := 174) d_M_kindOf_167 rfl (fun q66 => ?_) (fun q66 => ?_)
            · have H := ite_t H q66
              refine J.run b_M_kindOf_174_1 k_M_kindOf_174_1 rfl (show J w (d + 3) m_M_kindOf (n0, z0, some (.int z.1), mk c z.2) 175 [some (.ref 191), some (.int x1), some (.int x2), some (.int (r19 - r25)), some (.int (r31 - r37)), some (.int (r43 - r49)), some (.int (r55 - r61)), some (.int (((r19 - r25) * (r55 - r61)) - ((r31 - r37) * (r43 - r49)))), some (.int (((r19 - r25) * (r43 - r49)) + ((r31 - r37) * (r55 - r61))))] [.int (2 : Int32)] (mk c S62) from ?_)
              obtain rfl := some_e H
              exact J.iret d_M_kindOf_175 rfl rfl
            · have H := ite_f H q66
              refine J.run b_M_kindOf_170_1 k_M_kindOf_170_1 rfl (show J w (d + 3) m_M_kindOf (n0, z0, some (.int z.1), mk c z.2) 171 [some (.ref 191), some (.int x1), some (.int x2), some (.int (r19 - r25)), some (.int (r31 - r37)), some (.int (r43 - r49)), some (.int (r55 - r61)), some (.int (((r19 - r25) * (r55 - r61)) - ((r31 - r37) * (r43 - r49)))), some (.int (((r19 - r25) * (r43 - r49)) + ((r31 - r37) * (r55 - r61))))] [.int (3 : Int32)] (mk c S62) from ?_)
              refine J.goto (tgt := 175) d_M_kindOf_171 rfl ?_
              obtain rfl := some_e H
              exact J.iret d_M_kindOf_175 rfl rfl
          · have H := ite_f H q65
            refine J.run b_M_kindOf_161_1 k_M_kindOf_161_1 rfl (show J w (d + 3) m_M_kindOf (n0, z0, some (.int z.1), mk c z.2) 162 [some (.ref 191), some (.int x1), some (.int x2), some (.int (r19 - r25)), some (.int (r31 - r37)), some (.int (r43 - r49)), some (.int (r55 - r61)), some (.int (((r19 - r25) * (r55 - r61)) - ((r31 - r37) * (r43 - r49)))), some (.int (((r19 - r25) * (r43 - r49)) + ((r31 - r37) * (r55 - r61))))] [.int (4 : Int32)] (mk c S62) from ?_)
            refine J.goto (tgt := 175) d_M_kindOf_162 rfl ?_
            obtain rfl := some_e H
            exact J.iret d_M_kindOf_175 rfl rfl
        · have H := ite_t H q64
          refine J.run b_M_kindOf_143_1 k_M_kindOf_143_1 rfl (show J w (d + 3) m_M_kindOf (n0, z0, some (.int z.1), mk c z.2) 145 [some (.ref 191), some (.int x1), some (.int x2), some (.int (r19 - r25)), some (.int (r31 - r37)), some (.int (r43 - r49)), some (.int (r55 - r61)), some (.int (((r19 - r25) * (r55 - r61)) - ((r31 - r37) * (r43 - r49)))), some (.int (((r19 - r25) * (r43 - r49)) + ((r31 - r37) * (r55 - r61))))] [.int (((r19 - r25) * (r43 - r49)) + ((r31 - r37) * (r55 - r61)))] (mk c S62) from ?_)
          refine J.zle (tgt := 152) d_M_kindOf_145 rfl (fun q67 => ?_) (fun q67 => ?_)
          · have H := ite_t H q67
            refine J.run b_M_kindOf_152_1 k_M_kindOf_152_1 rfl (show J w (d + 3) m_M_kindOf (n0, z0, some (.int z.1), mk c z.2) 153 [some (.ref 191), some (.int x1), some (.int x2), some (.int (r19 - r25)), some (.int (r31 - r37)), some (.int (r43 - r49)), some (.int (r55 - r61)), some (.int (((r19 - r25) * (r55 - r61)) - ((r31 - r37) * (r43 - r49)))), some (.int (((r19 - r25) * (r43 - r49)) + ((r31 - r37) * (r55 - r61))))] [.int (5 : Int32)] (mk c S62) from ?_)
            refine J.goto (tgt := 175) d_M_kindOf_153 rfl ?_
            obtain rfl := some_e H
            exact J.iret d_M_kindOf_175 rfl rfl
          · have H := ite_f H q67
            refine J.run b_M_kindOf_148_1 k_M_kindOf_148_1 rfl (show J w (d + 3) m_M_kindOf (n0, z0, some (.int z.1), mk c z.2) 149 [some (.ref 191), some (.int x1), some (.int x2), some (.int (r19 - r25)), some (.int (r31 - r37)), some (.int (r43 - r49)), some (.int (r55 - r61)), some (.int (((r19 - r25) * (r55 - r61)) - ((r31 - r37) * (r43 - r49)))), some (.int (((r19 - r25) * (r43 - r49)) + ((r31 - r37) * (r55 - r61))))] [.int (1 : Int32)] (mk c S62) from ?_)
            refine J.goto (tgt := 175) d_M_kindOf_149 rfl ?_
            obtain rfl := some_e H
            exact J.iret d_M_kindOf_175 rfl rfl
      · have H := ite_f H q15
        refine J.run b_M_kindOf_29_1 k_M_kindOf_29_1 rfl (show J w (d + 3) m_M_kindOf (n0, z0, some (.int z.1), mk c z.2) 30 [some (.ref 191), some (.int x1), some (.int x2), none, none, none, none, none, none] [.int (0 : Int32)] (mk c S13) from ?_)
        obtain rfl := some_e H
        exact J.iret d_M_kindOf_30 rfl rfl
def b_M_turn_0_1 : List Ins := [(.iload_n 1, 0, 0, 0)]
theorem k_M_turn_0_1 : bok m_M_turn 0 b_M_turn_0_1 = true := by decide +kernel
def b_M_turn_14_1 : List Ins := [(.iconst (-1), 0, 0, 0)]
theorem k_M_turn_14_1 : bok m_M_turn 14 b_M_turn_14_1 = true := by decide +kernel
def b_M_turn_7_1 : List Ins := [(.iload_n 2, 0, 0, 0)]
theorem k_M_turn_7_1 : bok m_M_turn 7 b_M_turn_7_1 = true := by decide +kernel
def b_M_turn_16_3 : List Ins := [(.aload_n 0, 0, 0, 0), (.iload_n 1, 0, 0, 0), (.iload_n 2, 0, 0, 0)]
theorem k_M_turn_16_3 : bok m_M_turn 16 b_M_turn_16_3 = true := by decide +kernel
def b_M_turn_22_2 : List Ins := [(.istore_n 3, 0, 0, 0), (.iload_n 3, 0, 0, 0)]
theorem k_M_turn_22_2 : bok m_M_turn 22 b_M_turn_22_2 = true := by decide +kernel
def b_M_turn_32_1 : List Ins := [(.iload_n 3, 0, 0, 0)]
theorem k_M_turn_32_1 : bok m_M_turn 32 b_M_turn_32_1 = true := by decide +kernel
def b_M_turn_27_1 : List Ins := [(.bipush (-3), 0, 0, 0)]
theorem k_M_turn_27_1 : bok m_M_turn 27 b_M_turn_27_1 = true := by decide +kernel
theorem d_M_turn_1 : decode m_M_turn.2.1 1 = .ok (.invokestatic 151, 3) := by decide +kernel
theorem d_M_turn_4 : decode m_M_turn.2.1 4 = .ok (.ifCond .eq (10), 3) := by decide +kernel
theorem d_M_turn_15 : decode m_M_turn.2.1 15 = .ok (.ireturn, 1) := by decide +kernel
theorem d_M_turn_8 : decode m_M_turn.2.1 8 = .ok (.invokestatic 151, 3) := by decide +kernel
theorem d_M_turn_11 : decode m_M_turn.2.1 11 = .ok (.ifCond .ne (5), 3) := by decide +kernel
theorem d_M_turn_19 : decode m_M_turn.2.1 19 = .ok (.invokevirtual 154, 3) := by decide +kernel
theorem d_M_turn_24 : decode m_M_turn.2.1 24 = .ok (.ifCond .ne (8), 3) := by decide +kernel
theorem d_M_turn_33 : decode m_M_turn.2.1 33 = .ok (.ireturn, 1) := by decide +kernel
theorem d_M_turn_29 : decode m_M_turn.2.1 29 = .ok (.goto (4), 3) := by decide +kernel
def f_M_turn  (S : hs) (x1 : Int32) (x2 : Int32) : Option (Int32 × hs) := bd (f_M_isIndex  S x1) fun r1 S2 => (if r1 = 0 then some ((-1 : Int32), S2) else bd (f_M_isIndex  S2 x2) fun r5 S6 => (if r5 = 0 then some ((-1 : Int32), S6) else bd (f_M_kindOf  S6 x1 x2) fun r9 S10 => (if r9 = 0 then some ((-3 : Int32), S10) else some (r9, S10))))
theorem c_M_turn (w : Wd) (d : Nat) (c : cx)   (S : hs) (x1 : Int32) (x2 : Int32)  {z : Int32 × hs} (H : f_M_turn S x1 x2 = some z) : Cl w (d + 4) m_M_turn [.ref 191, .int x1, .int x2] (mk c S) (some (.int z.1)) (mk c z.2) := by
  refine Cl.of (Nat.le_refl _) (Nat.le_refl _) (by decide +kernel) (Nat.le_of_ble_eq_true rfl) ?_
  unfold f_M_turn at H
  generalize hN (mk c S) = n0
  generalize hZ (mk c S) = z0
  show J w (d + 4) m_M_turn (n0, z0, some (.int z.1), mk c z.2) 0 [some (.ref 191), some (.int x1), some (.int x2), none] [] (mk c S)
  refine J.run b_M_turn_0_1 k_M_turn_0_1 rfl (show J w (d + 4) m_M_turn (n0, z0, some (.int z.1), mk c z.2) 1 [some (.ref 191), some (.int x1), some (.int x2), none] [.int x1] (mk c S) from ?_)
  obtain ⟨r1, S2, h3, H⟩ := bd_e H
  refine J.callS (y := m_M_isIndex) (av := [.int x1]) (rest := []) l_M_151 d_M_turn_1 (c_M_isIndex w (d + 1) c  S x1 h3) rfl (Nat.le_of_ble_eq_true rfl) ⟨Nat.le_refl _, Nat.le_refl _⟩ (show J w (d + 4) m_M_turn (n0, z0, some (.int z.1), mk c z.2) 4 [some (.ref 191), some (.int x1), some (.int x2), none] [.int r1] (mk c S2) from ?_)
  refine J.zeq (tgt := 14) d_M_turn_4 rfl (fun q4 => ?_) (fun q4 => ?_)
  · have H := ite_t H q4
    refine J.run b_M_turn_14_1 k_M_turn_14_1 rfl (show J w (d + 4) m_M_turn (n0, z0, some (.int z.1), mk c z.2) 15 [some (.ref 191), some (.int x1), some (.int x2), none] [.int (-1 : Int32)] (mk c S2) from ?_)
    obtain rfl := some_e H
    exact J.iret d_M_turn_15 rfl rfl
  · have H := ite_f H q4
    refine J.run b_M_turn_7_1 k_M_turn_7_1 rfl (show J w (d + 4) m_M_turn (n0, z0, some (.int z.1), mk c z.2) 8 [some (.ref 191), some (.int x1), some (.int x2), none] [.int x2] (mk c S2) from ?_)
    obtain ⟨r5, S6, h7, H⟩ := bd_e H
    refine J.callS (y := m_M_isIndex) (av := [.int x2]) (rest := []) l_M_151 d_M_turn_8 (c_M_isIndex w (d + 1) c  S2 x2 h7) rfl (Nat.le_of_ble_eq_true rfl) ⟨Nat.le_refl _, Nat.le_refl _⟩ (show J w (d + 4) m_M_turn (n0, z0, some (.int z.1), mk c z.2) 11 [some (.ref 191), some (.int x1), some (.int x2), none] [.int r5] (mk c S6) from ?_)
    refine J.zne (tgt := 16) d_M_turn_11 rfl (fun q8 => ?_) (fun q8 => ?_)
    · have H := ite_f H q8
      refine J.run b_M_turn_16_3 k_M_turn_16_3 rfl (show J w (d + 4) m_M_turn (n0, z0, some (.int z.1), mk c z.2) 19 [some (.ref 191), some (.int x1), some (.int x2), none] [.int x2, .int x1, .ref 191] (mk c S6) from ?_)
      obtain ⟨r9, S10, h11, H⟩ := bd_e H
      refine J.callV (y := m_M_kindOf) (av := [.int x1, .int x2]) (rest := []) (q := 191) l_M_154 d_M_turn_19 (isC_st rfl rfl) (c_M_kindOf w (d + 0) c  S6 x1 x2 h11) rfl (Nat.le_of_ble_eq_true rfl) ⟨Nat.le_refl _, Nat.le_refl _⟩ (show J w (d + 4) m_M_turn (n0, z0, some (.int z.1), mk c z.2) 22 [some (.ref 191), some (.int x1), some (.int x2), none] [.int r9] (mk c S10) from ?_)
      refine J.run b_M_turn_22_2 k_M_turn_22_2 rfl (show J w (d + 4) m_M_turn (n0, z0, some (.int z.1), mk c z.2) 24 [some (.ref 191), some (.int x1), some (.int x2), some (.int r9)] [.int r9] (mk c S10) from ?_)
      refine J.zne (tgt := 32) d_M_turn_24 rfl (fun q12 => ?_) (fun q12 => ?_)
      · have H := ite_f H q12
        refine J.run b_M_turn_32_1 k_M_turn_32_1 rfl (show J w (d + 4) m_M_turn (n0, z0, some (.int z.1), mk c z.2) 33 [some (.ref 191), some (.int x1), some (.int x2), some (.int r9)] [.int r9] (mk c S10) from ?_)
        obtain rfl := some_e H
        exact J.iret d_M_turn_33 rfl rfl
      · have H := ite_t H q12
        refine J.run b_M_turn_27_1 k_M_turn_27_1 rfl (show J w (d + 4) m_M_turn (n0, z0, some (.int z.1), mk c z.2) 29 [some (.ref 191), some (.int x1), some (.int x2), some (.int r9)] [.int (-3 : Int32)] (mk c S10) from ?_)
        refine J.goto (tgt := 33) d_M_turn_29 rfl ?_
        obtain rfl := some_e H
        exact J.iret d_M_turn_33 rfl rfl
    · have H := ite_t H q8
      refine J.run b_M_turn_14_1 k_M_turn_14_1 rfl (show J w (d + 4) m_M_turn (n0, z0, some (.int z.1), mk c z.2) 15 [some (.ref 191), some (.int x1), some (.int x2), none] [.int (-1 : Int32)] (mk c S6) from ?_)
      obtain rfl := some_e H
      exact J.iret d_M_turn_15 rfl rfl
def b_M_isWidth_0_3 : List Ins := [(.iload_n 0, 0, 0, 0), (.iconst (0), 0, 0, 0), (.bipush (9), 0, 0, 0)]
theorem k_M_isWidth_0_3 : bok m_M_isWidth 0 b_M_isWidth_0_3 = true := by decide +kernel
theorem d_M_isWidth_4 : decode m_M_isWidth.2.1 4 = .ok (.invokestatic 105, 3) := by decide +kernel
theorem d_M_isWidth_7 : decode m_M_isWidth.2.1 7 = .ok (.ireturn, 1) := by decide +kernel
def f_M_isWidth  (S : hs) (x0 : Int32) : Option (Int32 × hs) := bd (f_M_in  S x0 (0 : Int32) (9 : Int32)) fun r1 S2 => ck (isB r1) (some (r1, S2))
theorem c_M_isWidth (w : Wd) (d : Nat) (c : cx)   (S : hs) (x0 : Int32)  {z : Int32 × hs} (H : f_M_isWidth S x0 = some z) : Cl w (d + 2) m_M_isWidth [.int x0] (mk c S) (some (.int z.1)) (mk c z.2) := by
  refine Cl.of (Nat.le_refl _) (Nat.le_refl _) (by decide +kernel) (Nat.le_of_ble_eq_true rfl) ?_
  unfold f_M_isWidth at H
  generalize hN (mk c S) = n0
  generalize hZ (mk c S) = z0
  show J w (d + 2) m_M_isWidth (n0, z0, some (.int z.1), mk c z.2) 0 [some (.int x0)] [] (mk c S)
  refine J.run b_M_isWidth_0_3 k_M_isWidth_0_3 rfl (show J w (d + 2) m_M_isWidth (n0, z0, some (.int z.1), mk c z.2) 4 [some (.int x0)] [.int (9 : Int32), .int (0 : Int32), .int x0] (mk c S) from ?_)
  obtain ⟨r1, S2, h3, H⟩ := bd_e H
  refine J.callS (y := m_M_in) (av := [.int x0, .int (0 : Int32), .int (9 : Int32)]) (rest := []) l_M_105 d_M_isWidth_4 (c_M_in w (d + 0) c  S x0 (0 : Int32) (9 : Int32) h3) rfl (Nat.le_of_ble_eq_true rfl) ⟨Nat.le_refl _, Nat.le_refl _⟩ (show J w (d + 2) m_M_isWidth (n0, z0, some (.int z.1), mk c z.2) 7 [some (.int x0)] [.int r1] (mk c S2) from ?_)
  obtain ⟨g4, H⟩ := ck_e H
  obtain rfl := some_e H
  exact J.nret d_M_isWidth_7 rfl (isB_n g4) rfl
def b_M_broadOf_0_5 : List Ins := [(.aload_n 0, 0, 0, 0), (.iload_n 1, 0, 0, 0), (.iconst (2), 0, 0, 0), (.idiv, 0, 0, 0), (.iconst (2), 0, 0, 0)]
theorem k_M_broadOf_0_5 : bok m_M_broadOf 0 b_M_broadOf_0_5 = true := by decide +kernel
theorem d_M_broadOf_5 : decode m_M_broadOf.2.1 5 = .ok (.invokevirtual 133, 3) := by decide +kernel
theorem d_M_broadOf_8 : decode m_M_broadOf.2.1 8 = .ok (.ireturn, 1) := by decide +kernel
def f_M_broadOf  (S : hs) (x1 : Int32) : Option (Int32 × hs) := bd (f_M_streetIs  S (x1 / (2 : Int32)) (2 : Int32)) fun r1 S2 => some (r1, S2)
theorem c_M_broadOf (w : Wd) (d : Nat) (c : cx)   (S : hs) (x1 : Int32)  {z : Int32 × hs} (H : f_M_broadOf S x1 = some z) : Cl w (d + 2) m_M_broadOf [.ref 191, .int x1] (mk c S) (some (.int z.1)) (mk c z.2) := by
  refine Cl.of (Nat.le_refl _) (Nat.le_refl _) (by decide +kernel) (Nat.le_of_ble_eq_true rfl) ?_
  unfold f_M_broadOf at H
  generalize hN (mk c S) = n0
  generalize hZ (mk c S) = z0
  show J w (d + 2) m_M_broadOf (n0, z0, some (.int z.1), mk c z.2) 0 [some (.ref 191), some (.int x1)] [] (mk c S)
  refine J.run b_M_broadOf_0_5 k_M_broadOf_0_5 rfl (And.intro (by decide) (show J w (d + 2) m_M_broadOf (n0, z0, some (.int z.1), mk c z.2) 5 [some (.ref 191), some (.int x1)] [.int (2 : Int32), .int (x1 / (2 : Int32)), .ref 191] (mk c S) from ?_))
  obtain ⟨r1, S2, h3, H⟩ := bd_e H
  refine J.callV (y := m_M_streetIs) (av := [.int (x1 / (2 : Int32)), .int (2 : Int32)]) (rest := []) (q := 191) l_M_133 d_M_broadOf_5 (isC_st rfl rfl) (c_M_streetIs w (d + 0) c  S (x1 / (2 : Int32)) (2 : Int32) h3) rfl (Nat.le_of_ble_eq_true rfl) ⟨Nat.le_refl _, Nat.le_refl _⟩ (show J w (d + 2) m_M_broadOf (n0, z0, some (.int z.1), mk c z.2) 8 [some (.ref 191), some (.int x1)] [.int r1] (mk c S2) from ?_)
  obtain rfl := some_e H
  exact J.iret d_M_broadOf_8 rfl rfl
def b_M_above_0_1 : List Ins := [(.iload_n 0, 0, 0, 0)]
theorem k_M_above_0_1 : bok m_M_above 0 b_M_above_0_1 = true := by decide +kernel
def b_M_above_8_2 : List Ins := [(.iload_n 0, 0, 0, 0), (.iconst (3), 0, 0, 0)]
theorem k_M_above_8_2 : bok m_M_above 8 b_M_above_8_2 = true := by decide +kernel
def b_M_above_17_2 : List Ins := [(.iload_n 0, 0, 0, 0), (.iconst (5), 0, 0, 0)]
theorem k_M_above_17_2 : bok m_M_above 17 b_M_above_17_2 = true := by decide +kernel
def b_M_above_26_1 : List Ins := [(.iconst (0), 0, 0, 0)]
theorem k_M_above_26_1 : bok m_M_above 26 b_M_above_26_1 = true := by decide +kernel
def b_M_above_22_1 : List Ins := [(.iconst (4), 0, 0, 0)]
theorem k_M_above_22_1 : bok m_M_above 22 b_M_above_22_1 = true := by decide +kernel
def b_M_above_13_1 : List Ins := [(.iconst (2), 0, 0, 0)]
theorem k_M_above_13_1 : bok m_M_above 13 b_M_above_13_1 = true := by decide +kernel
def b_M_above_4_1 : List Ins := [(.iconst (-1), 0, 0, 0)]
theorem k_M_above_4_1 : bok m_M_above 4 b_M_above_4_1 = true := by decide +kernel
theorem d_M_above_1 : decode m_M_above.2.1 1 = .ok (.ifCond .ne (7), 3) := by decide +kernel
theorem d_M_above_10 : decode m_M_above.2.1 10 = .ok (.if_icmp .ne (7), 3) := by decide +kernel
theorem d_M_above_19 : decode m_M_above.2.1 19 = .ok (.if_icmp .ne (7), 3) := by decide +kernel
theorem d_M_above_27 : decode m_M_above.2.1 27 = .ok (.ireturn, 1) := by decide +kernel
theorem d_M_above_23 : decode m_M_above.2.1 23 = .ok (.goto (4), 3) := by decide +kernel
theorem d_M_above_14 : decode m_M_above.2.1 14 = .ok (.goto (13), 3) := by decide +kernel
theorem d_M_above_5 : decode m_M_above.2.1 5 = .ok (.goto (22), 3) := by decide +kernel
def f_M_above  (S : hs) (x0 : Int32) : Option (Int32 × hs) := (if x0 = 0 then some ((-1 : Int32), S) else (if x0 = (3 : Int32) then some ((2 : Int32), S) else (if x0 = (5 : Int32) then some ((4 : Int32), S) else some ((0 : Int32), S))))
theorem c_M_above (w : Wd) (d : Nat) (c : cx)   (S : hs) (x0 : Int32)  {z : Int32 × hs} (H : f_M_above S x0 = some z) : Cl w (d + 1) m_M_above [.int x0] (mk c S) (some (.int z.1)) (mk c z.2) := by
  refine Cl.of (Nat.le_refl _) (Nat.le_refl _) (by decide +kernel) (Nat.le_of_ble_eq_true rfl) ?_
  unfold f_M_above at H
  generalize hN (mk c S) = n0
  generalize hZ (mk c S) = z0
  show J w (d + 1) m_M_above (n0, z0, some (.int z.1), mk c z.2) 0 [some (.int x0)] [] (mk c S)
  refine J.run b_M_above_0_1 k_M_above_0_1 rfl (show J w (d + 1) m_M_above (n0, z0, some (.int z.1), mk c z.2) 1 [some (.int x0)] [.int x0] (mk c S) from ?_)
  refine J.zne (tgt := 8) d_M_above_1 rfl (fun q1 => ?_) (fun q1 => ?_)
  · have H := ite_f H q1
    refine J.run b_M_above_8_2 k_M_above_8_2 rfl (show J w (d + 1) m_M_above (n0, z0, some (.int z.1), mk c z.2) 10 [some (.int x0)] [.int (3 : Int32), .int x0] (mk c S) from ?_)
    refine J.cne (tgt := 17) d_M_above_10 rfl (fun q2 => ?_) (fun q2 => ?_)
    · have H := ite_f H q2
      refine J.run b_M_above_17_2 k_M_above_17_2 rfl (show J w (d + 1) m_M_above (n0, z0, some (.int z.1), mk c z.2) 19 [some (.int x0)] [.int (5 : Int32), .int x0] (mk c S) from ?_)
      refine J.cne (tgt := 26) d_M_above_19 rfl (fun q3 => ?_) (fun q3 => ?_)
      · have H := ite_f H q3
        refine J.run b_M_above_26_1 k_M_above_26_1 rfl (show J w (d + 1) m_M_above (n0, z0, some (.int z.1), mk c z.2) 27 [some (.int x0)] [.int (0 : Int32)] (mk c S) from ?_)
        obtain rfl := some_e H
        exact J.iret d_M_above_27 rfl rfl
      · have H := ite_t H q3
        refine J.run b_M_above_22_1 k_M_above_22_1 rfl (show J w (d + 1) m_M_above (n0, z0, some (.int z.1), mk c z.2) 23 [some (.int x0)] [.int (4 : Int32)] (mk c S) from ?_)
        refine J.goto (tgt := 27) d_M_above_23 rfl ?_
        obtain rfl := some_e H
        exact J.iret d_M_above_27 rfl rfl
    · have H := ite_t H q2
      refine J.run b_M_above_13_1 k_M_above_13_1 rfl (show J w (d + 1) m_M_above (n0, z0, some (.int z.1), mk c z.2) 14 [some (.int x0)] [.int (2 : Int32)] (mk c S) from ?_)
      refine J.goto (tgt := 27) d_M_above_14 rfl ?_
      obtain rfl := some_e H
      exact J.iret d_M_above_27 rfl rfl
  · have H := ite_t H q1
    refine J.run b_M_above_4_1 k_M_above_4_1 rfl (show J w (d + 1) m_M_above (n0, z0, some (.int z.1), mk c z.2) 5 [some (.int x0)] [.int (-1 : Int32)] (mk c S) from ?_)
    refine J.goto (tgt := 27) d_M_above_5 rfl ?_
    obtain rfl := some_e H
    exact J.iret d_M_above_27 rfl rfl
def b_M_isUnder_0_2 : List Ins := [(.iload_n 0, 0, 0, 0), (.istore_n 2, 0, 0, 0)]
theorem k_M_isUnder_0_2 : bok m_M_isUnder 0 b_M_isUnder_0_2 = true := by decide +kernel
def b_M_isUnder_2_1 : List Ins := [(.iload_n 2, 0, 0, 0)]
theorem k_M_isUnder_2_1 : bok m_M_isUnder 2 b_M_isUnder_2_1 = true := by decide +kernel
def b_M_isUnder_6_2 : List Ins := [(.iload_n 2, 0, 0, 0), (.iload_n 1, 0, 0, 0)]
theorem k_M_isUnder_6_2 : bok m_M_isUnder 6 b_M_isUnder_6_2 = true := by decide +kernel
def b_M_isUnder_11_1 : List Ins := [(.iload_n 2, 0, 0, 0)]
theorem k_M_isUnder_11_1 : bok m_M_isUnder 11 b_M_isUnder_11_1 = true := by decide +kernel
def b_M_isUnder_15_1 : List Ins := [(.istore_n 2, 0, 0, 0)]
theorem k_M_isUnder_15_1 : bok m_M_isUnder 15 b_M_isUnder_15_1 = true := by decide +kernel
def b_M_isUnder_19_2 : List Ins := [(.iload_n 2, 0, 0, 0), (.iload_n 1, 0, 0, 0)]
theorem k_M_isUnder_19_2 : bok m_M_isUnder 19 b_M_isUnder_19_2 = true := by decide +kernel
def b_M_isUnder_28_1 : List Ins := [(.iconst (0), 0, 0, 0)]
theorem k_M_isUnder_28_1 : bok m_M_isUnder 28 b_M_isUnder_28_1 = true := by decide +kernel
def b_M_isUnder_24_1 : List Ins := [(.iconst (1), 0, 0, 0)]
theorem k_M_isUnder_24_1 : bok m_M_isUnder 24 b_M_isUnder_24_1 = true := by decide +kernel
theorem d_M_isUnder_3 : decode m_M_isUnder.2.1 3 = .ok (.ifCond .lt (16), 3) := by decide +kernel
theorem d_M_isUnder_8 : decode m_M_isUnder.2.1 8 = .ok (.if_icmp .eq (11), 3) := by decide +kernel
theorem d_M_isUnder_12 : decode m_M_isUnder.2.1 12 = .ok (.invokestatic 148, 3) := by decide +kernel
theorem d_M_isUnder_16 : decode m_M_isUnder.2.1 16 = .ok (.goto (-14), 3) := by decide +kernel
theorem d_M_isUnder_21 : decode m_M_isUnder.2.1 21 = .ok (.if_icmp .ne (7), 3) := by decide +kernel
theorem d_M_isUnder_29 : decode m_M_isUnder.2.1 29 = .ok (.ireturn, 1) := by decide +kernel
theorem d_M_isUnder_25 : decode m_M_isUnder.2.1 25 = .ok (.goto (4), 3) := by decide +kernel
def lp_M_isUnder_2 (x1 : Int32)  (K0 : hs → Int32 → Option (Int32 × hs)) : Nat → hs → Int32 → Option (Int32 × hs)
  | 0, _, _ => none
  | n + 1, S, x2 => (if x2 < 0 then K0 S x2 else (if x2 = x1 then K0 S x2 else bd (f_M_above  S x2) fun r3 S4 => lp_M_isUnder_2 x1 K0 n S4 r3))
def f_M_isUnder  (S : hs) (x0 : Int32) (x1 : Int32) : Option (Int32 × hs) := lp_M_isUnder_2 x1 (fun (S6 : hs) (y7 : Int32) => (if y7 = x1 then some ((1 : Int32), S6) else some ((0 : Int32), S6))) 1000 S x0
theorem lo_M_isUnder_2 (w : Wd) (d : Nat) (c : cx) {n0 z0 : Nat} {z : Int32 × hs}  {K0 : hs → Int32 → Option (Int32 × hs)} (x1 : Int32)   (hK0 : ∀ (S : hs) (x2 : Int32), K0 S x2 = some z → J w (d + 2) m_M_isUnder (n0, z0, some (.int z.1), mk c z.2) 19 [none, some (.int x1), some (.int x2)] [] (mk c S)) :
    ∀ (n : Nat) (S : hs) (x2 : Int32), lp_M_isUnder_2 x1 K0 n S x2 = some z → J w (d + 2) m_M_isUnder (n0, z0, some (.int z.1), mk c z.2) 2 [none, some (.int x1), some (.int x2)] [] (mk c S) := by
  intro n
  induction n with
  | zero => intro S x2 H; cases H
  | succ n ih =>
    intro S x2 H
    rw [lp_M_isUnder_2] at H
    refine J.run b_M_isUnder_2_1 k_M_isUnder_2_1 rfl (show J w (d + 2) m_M_isUnder (n0, z0, some (.int z.1), mk c z.2) 3 [none, some (.int x1), some (.int x2)] [.int x2] (mk c S) from ?_)
    refine J.zlt (tgt := 19) d_M_isUnder_3 rfl (fun q1 => ?_) (fun q1 => ?_)
    · have H := ite_t H q1
      refine J.mask [false, true, true] ?_
      exact hK0 S x2 H
    · have H := ite_f H q1
      refine J.run b_M_isUnder_6_2 k_M_isUnder_6_2 rfl (show J w (d + 2) m_M_isUnder (n0, z0, some (.int z.1), mk c z.2) 8 [none, some (.int x1), some (.int x2)] [.int x1, .int x2] (mk c S) from ?_)
      refine J.ceq (tgt := 19) d_M_isUnder_8 rfl (fun q2 => ?_) (fun q2 => ?_)
      · have H := ite_t H q2
        refine J.mask [false, true, true] ?_
        exact hK0 S x2 H
      · have H := ite_f H q2
        refine J.run b_M_isUnder_11_1 k_M_isUnder_11_1 rfl (show J w (d + 2) m_M_isUnder (n0, z0, some (.int z.1), mk c z.2) 12 [none, some (.int x1), some (.int x2)] [.int x2] (mk c S) from ?_)
        obtain ⟨r3, S4, h5, H⟩ := bd_e H
        refine J.callS (y := m_M_above) (av := [.int x2]) (rest := []) l_M_148 d_M_isUnder_12 (c_M_above w (d + 0) c  S x2 h5) rfl (Nat.le_of_ble_eq_true rfl) ⟨Nat.le_refl _, Nat.le_refl _⟩ (show J w (d + 2) m_M_isUnder (n0, z0, some (.int z.1), mk c z.2) 15 [none, some (.int x1), some (.int x2)] [.int r3] (mk c S4) from ?_)
        refine J.run b_M_isUnder_15_1 k_M_isUnder_15_1 rfl (show J w (d + 2) m_M_isUnder (n0, z0, some (.int z.1), mk c z.2) 16 [none, some (.int x1), some (.int r3)] [] (mk c S4) from ?_)
        refine J.goto (tgt := 2) d_M_isUnder_16 rfl ?_
        refine J.mask [false, true, true] ?_
        exact ih S4 r3 H
theorem c_M_isUnder (w : Wd) (d : Nat) (c : cx)   (S : hs) (x0 : Int32) (x1 : Int32)  {z : Int32 × hs} (H : f_M_isUnder S x0 x1 = some z) : Cl w (d + 2) m_M_isUnder [.int x0, .int x1] (mk c S) (some (.int z.1)) (mk c z.2) := by
  refine Cl.of (Nat.le_refl _) (Nat.le_refl _) (by decide +kernel) (Nat.le_of_ble_eq_true rfl) ?_
  unfold f_M_isUnder at H
  generalize hN (mk c S) = n0
  generalize hZ (mk c S) = z0
  show J w (d + 2) m_M_isUnder (n0, z0, some (.int z.1), mk c z.2) 0 [some (.int x0), some (.int x1), none] [] (mk c S)
  refine J.run b_M_isUnder_0_2 k_M_isUnder_0_2 rfl (show J w (d + 2) m_M_isUnder (n0, z0, some (.int z.1), mk c z.2) 2 [some (.int x0), some (.int x1), some (.int x0)] [] (mk c S) from ?_)
  refine J.mask [false, true, true] ?_
  refine lo_M_isUnder_2 w d c x1 ?_ 1000 S x0 H
  · intro S6 y7 H
    try dsimp only at H
    refine J.run b_M_isUnder_19_2 k_M_isUnder_19_2 rfl (show J w (d + 2) m_M_isUnder (n0, z0, some (.int z.1), mk c z.2) 21 [none, some (.int x1), some (.int y7)] [.int x1, .int y7] (mk c S6) from ?_)
    refine J.cne (tgt := 28) d_M_isUnder_21 rfl (fun q8 => ?_) (fun q8 => ?_)
    · have H := ite_f H q8
      refine J.run b_M_isUnder_28_1 k_M_isUnder_28_1 rfl (show J w (d + 2) m_M_isUnder (n0, z0, some (.int z.1), mk c z.2) 29 [none, some (.int x1), some (.int y7)] [.int (0 : Int32)] (mk c S6) from ?_)
      obtain rfl := some_e H
      exact J.nret d_M_isUnder_29 rfl rfl rfl
    · have H := ite_t H q8
      refine J.run b_M_isUnder_24_1 k_M_isUnder_24_1 rfl (show J w (d + 2) m_M_isUnder (n0, z0, some (.int z.1), mk c z.2) 25 [none, some (.int x1), some (.int y7)] [.int (1 : Int32)] (mk c S6) from ?_)
      refine J.goto (tgt := 29) d_M_isUnder_25 rfl ?_
      obtain rfl := some_e H
      exact J.nret d_M_isUnder_29 rfl rfl rfl
def b_M_did_0_1 : List Ins := [(.iload_n 0, 0, 0, 0)]
theorem k_M_did_0_1 : bok m_M_did 0 b_M_did_0_1 = true := by decide +kernel
def b_M_did_32_3 : List Ins := [(.iload_n 1, 0, 0, 0), (.iload_n 2, 0, 0, 0), (.iadd, 0, 0, 0)]
theorem k_M_did_32_3 : bok m_M_did 32 b_M_did_32_3 = true := by decide +kernel
def b_M_did_42_1 : List Ins := [(.iconst (0), 0, 0, 0)]
theorem k_M_did_42_1 : bok m_M_did 42 b_M_did_42_1 = true := by decide +kernel
def b_M_did_38_1 : List Ins := [(.iconst (1), 0, 0, 0)]
theorem k_M_did_38_1 : bok m_M_did 38 b_M_did_38_1 = true := by decide +kernel
def b_M_did_44_4 : List Ins := [(.iload_n 1, 0, 0, 0), (.iload_n 2, 0, 0, 0), (.iadd, 0, 0, 0), (.iconst (2), 0, 0, 0)]
theorem k_M_did_44_4 : bok m_M_did 44 b_M_did_44_4 = true := by decide +kernel
def b_M_did_55_1 : List Ins := [(.iconst (0), 0, 0, 0)]
theorem k_M_did_55_1 : bok m_M_did 55 b_M_did_55_1 = true := by decide +kernel
def b_M_did_51_1 : List Ins := [(.iconst (1), 0, 0, 0)]
theorem k_M_did_51_1 : bok m_M_did 51 b_M_did_51_1 = true := by decide +kernel
def b_M_did_57_2 : List Ins := [(.iload_n 1, 0, 0, 0), (.iload_n 2, 0, 0, 0)]
theorem k_M_did_57_2 : bok m_M_did 57 b_M_did_57_2 = true := by decide +kernel
def b_M_did_66_1 : List Ins := [(.iconst (0), 0, 0, 0)]
theorem k_M_did_66_1 : bok m_M_did 66 b_M_did_66_1 = true := by decide +kernel
def b_M_did_62_1 : List Ins := [(.iconst (1), 0, 0, 0)]
theorem k_M_did_62_1 : bok m_M_did 62 b_M_did_62_1 = true := by decide +kernel
def b_M_did_68_2 : List Ins := [(.iload_n 1, 0, 0, 0), (.iload_n 2, 0, 0, 0)]
theorem k_M_did_68_2 : bok m_M_did 68 b_M_did_68_2 = true := by decide +kernel
def b_M_did_77_1 : List Ins := [(.iconst (0), 0, 0, 0)]
theorem k_M_did_77_1 : bok m_M_did 77 b_M_did_77_1 = true := by decide +kernel
def b_M_did_73_1 : List Ins := [(.iconst (1), 0, 0, 0)]
theorem k_M_did_73_1 : bok m_M_did 73 b_M_did_73_1 = true := by decide +kernel
def b_M_did_79_2 : List Ins := [(.iload_n 1, 0, 0, 0), (.iload_n 2, 0, 0, 0)]
theorem k_M_did_79_2 : bok m_M_did 79 b_M_did_79_2 = true := by decide +kernel
def b_M_did_88_1 : List Ins := [(.iconst (0), 0, 0, 0)]
theorem k_M_did_88_1 : bok m_M_did 88 b_M_did_88_1 = true := by decide +kernel
def b_M_did_84_1 : List Ins := [(.iconst (1), 0, 0, 0)]
theorem k_M_did_84_1 : bok m_M_did 84 b_M_did_84_1 = true := by decide +kernel
theorem d_M_did_1 : decode m_M_did.2.1 1 = .ok (.tableswitch (78) (20000) (20003) #[31, 43, 56, 67], 31) := by decide +kernel
theorem d_M_did_35 : decode m_M_did.2.1 35 = .ok (.ifCond .le (7), 3) := by decide +kernel
theorem d_M_did_43 : decode m_M_did.2.1 43 = .ok (.ireturn, 1) := by decide +kernel
theorem d_M_did_39 : decode m_M_did.2.1 39 = .ok (.goto (4), 3) := by decide +kernel
theorem d_M_did_48 : decode m_M_did.2.1 48 = .ok (.if_icmp .ne (7), 3) := by decide +kernel
theorem d_M_did_56 : decode m_M_did.2.1 56 = .ok (.ireturn, 1) := by decide +kernel
theorem d_M_did_52 : decode m_M_did.2.1 52 = .ok (.goto (4), 3) := by decide +kernel
theorem d_M_did_59 : decode m_M_did.2.1 59 = .ok (.if_icmp .ge (7), 3) := by decide +kernel
theorem d_M_did_67 : decode m_M_did.2.1 67 = .ok (.ireturn, 1) := by decide +kernel
theorem d_M_did_63 : decode m_M_did.2.1 63 = .ok (.goto (4), 3) := by decide +kernel
theorem d_M_did_70 : decode m_M_did.2.1 70 = .ok (.if_icmp .ne (7), 3) := by decide +kernel
theorem d_M_did_78 : decode m_M_did.2.1 78 = .ok (.ireturn, 1) := by decide +kernel
theorem d_M_did_74 : decode m_M_did.2.1 74 = .ok (.goto (4), 3) := by decide +kernel
theorem d_M_did_81 : decode m_M_did.2.1 81 = .ok (.if_icmp .le (7), 3) := by decide +kernel
theorem d_M_did_89 : decode m_M_did.2.1 89 = .ok (.ireturn, 1) := by decide +kernel
theorem d_M_did_85 : decode m_M_did.2.1 85 = .ok (.goto (4), 3) := by decide +kernel
def f_M_did  (S : hs) (x0 : Int32) (x1 : Int32) (x2 : Int32) : Option (Int32 × hs) := (if x0 = (20000 : Int32) then (if (x1 + x2) ≤ 0 then some ((0 : Int32), S) else some ((1 : Int32), S)) else (if x0 = (20001 : Int32) then (if (x1 + x2) = (2 : Int32) then some ((1 : Int32), S) else some ((0 : Int32), S)) else (if x0 = (20002 : Int32) then (if x2 ≤ x1 then some ((0 : Int32), S) else some ((1 : Int32), S)) else (if x0 = (20003 : Int32) then (if x1 = x2 then some ((1 : Int32), S) else some ((0 : Int32), S)) else (if x1 ≤ x2 then some ((0 : Int32), S) else some ((1 : Int32), S))))))
theorem c_M_did (w : Wd) (d : Nat) (c : cx)   (S : hs) (x0 : Int32) (x1 : Int32) (x2 : Int32)  {z : Int32 × hs} (H : f_M_did S x0 x1 x2 = some z) : Cl w (d + 1) m_M_did [.int x0, .int x1, .int x2] (mk c S) (some (.int z.1)) (mk c z.2) := by
  refine Cl.of (Nat.le_refl _) (Nat.le_refl _) (by decide +kernel) (Nat.le_of_ble_eq_true rfl) ?_
  unfold f_M_did at H
  generalize hN (mk c S) = n0
  generalize hZ (mk c S) = z0
  show J w (d + 1) m_M_did (n0, z0, some (.int z.1), mk c z.2) 0 [some (.int x0), some (.int x1), some (.int x2)] [] (mk c S)
  refine J.run b_M_did_0_1 k_M_did_0_1 rfl (show J w (d + 1) m_M_did (n0, z0, some (.int z.1), mk c z.2) 1 [some (.int x0), some (.int x1), some (.int x2)] [.int x0] (mk c S) from ?_)
  by_cases q1 : x0 = (20000 : Int32)
  · have H := ite_t H q1
    refine J.tsIn (off := 31) (tgt := 32) d_M_did_1 (by rw [q1]; decide) (by rw [q1]; decide) (by rw [q1]; rfl) rfl ?_
    refine J.run b_M_did_32_3 k_M_did_32_3 rfl (show J w (d + 1) m_M_did (n0, z0, some (.int z.1), mk c z.2) 35 [some (.int x0), some (.int x1), some (.int x2)] [.int (x1 + x2)] (mk c S) from ?_)
    refine J.zle (tgt := 42) d_M_did_35 rfl (fun q2 => ?_) (fun q2 => ?_)
    · have H := ite_t H q2
      refine J.run b_M_did_42_1 k_M_did_42_1 rfl (show J w (d + 1) m_M_did (n0, z0, some (.int z.1), mk c z.2) 43 [some (.int x0), some (.int x1), some (.int x2)] [.int (0 : Int32)] (mk c S) from ?_)
      obtain rfl := some_e H
      exact J.nret d_M_did_43 rfl rfl rfl
    · have H := ite_f H q2
      refine J.run b_M_did_38_1 k_M_did_38_1 rfl (show J w (d + 1) m_M_did (n0, z0, some (.int z.1), mk c z.2) 39 [some (.int x0), some (.int x1), some (.int x2)] [.int (1 : Int32)] (mk c S) from ?_)
      refine J.goto (tgt := 43) d_M_did_39 rfl ?_
      obtain rfl := some_e H
      exact J.nret d_M_did_43 rfl rfl rfl
  · have H := ite_f H q1
    by_cases q3 : x0 = (20001 : Int32)
    · have H := ite_t H q3
      refine J.tsIn (off := 43) (tgt := 44) d_M_did_1 (by rw [q3]; decide) (by rw [q3]; decide) (by rw [q3]; rfl) rfl ?_
      refine J.run b_M_did_44_4 k_M_did_44_4 rfl (show J w (d + 1) m_M_did (n0, z0, some (.int z.1), mk c z.2) 48 [some (.int x0), some (.int x1), some (.int x2)] [.int (2 : Int32), .int (x1 + x2)] (mk c S) from ?_)
      refine J.cne (tgt := 55) d_M_did_48 rfl (fun q4 => ?_) (fun q4 => ?_)
      · have H := ite_f H q4
        refine J.run b_M_did_55_1 k_M_did_55_1 rfl (show J w (d + 1) m_M_did (n0, z0, some (.int z.1), mk c z.2) 56 [some (.int x0), some (.int x1), some (.int x2)] [.int (0 : Int32)] (mk c S) from ?_)
        obtain rfl := some_e H
        exact J.nret d_M_did_56 rfl rfl rfl
      · have H := ite_t H q4
        refine J.run b_M_did_51_1 k_M_did_51_1 rfl (show J w (d + 1) m_M_did (n0, z0, some (.int z.1), mk c z.2) 52 [some (.int x0), some (.int x1), some (.int x2)] [.int (1 : Int32)] (mk c S) from ?_)
        refine J.goto (tgt := 56) d_M_did_52 rfl ?_
        obtain rfl := some_e H
        exact J.nret d_M_did_56 rfl rfl rfl
    · have H := ite_f H q3
      by_cases q5 : x0 = (20002 : Int32)
      · have H := ite_t H q5
        refine J.tsIn (off := 56) (tgt := 57) d_M_did_1 (by rw [q5]; decide) (by rw [q5]; decide) (by rw [q5]; rfl) rfl ?_
        refine J.run b_M_did_57_2 k_M_did_57_2 rfl (show J w (d + 1) m_M_did (n0, z0, some (.int z.1), mk c z.2) 59 [some (.int x0), some (.int x1), some (.int x2)] [.int x2, .int x1] (mk c S) from ?_)
        refine J.cge (tgt := 66) d_M_did_59 rfl (fun q6 => ?_) (fun q6 => ?_)
        · have H := ite_t H q6
          refine J.run b_M_did_66_1 k_M_did_66_1 rfl (show J w (d + 1) m_M_did (n0, z0, some (.int z.1), mk c z.2) 67 [some (.int x0), some (.int x1), some (.int x2)] [.int (0 : Int32)] (mk c S) from ?_)
          obtain rfl := some_e H
          exact J.nret d_M_did_67 rfl rfl rfl
        · have H := ite_f H q6
          refine J.run b_M_did_62_1 k_M_did_62_1 rfl (show J w (d + 1) m_M_did (n0, z0, some (.int z.1), mk c z.2) 63 [some (.int x0), some (.int x1), some (.int x2)] [.int (1 : Int32)] (mk c S) from ?_)
          refine J.goto (tgt := 67) d_M_did_63 rfl ?_
          obtain rfl := some_e H
          exact J.nret d_M_did_67 rfl rfl rfl
      · have H := ite_f H q5
        by_cases q7 : x0 = (20003 : Int32)
        · have H := ite_t H q7
          refine J.tsIn (off := 67) (tgt := 68) d_M_did_1 (by rw [q7]; decide) (by rw [q7]; decide) (by rw [q7]; rfl) rfl ?_
          refine J.run b_M_did_68_2 k_M_did_68_2 rfl (show J w (d + 1) m_M_did (n0, z0, some (.int z.1), mk c z.2) 70 [some (.int x0), some (.int x1), some (.int x2)] [.int x2, .int x1] (mk c S) from ?_)
          refine J.cne (tgt := 77) d_M_did_70 rfl (fun q8 => ?_) (fun q8 => ?_)
          · have H := ite_f H q8
            refine J.run b_M_did_77_1 k_M_did_77_1 rfl (show J w (d + 1) m_M_did (n0, z0, some (.int z.1), mk c z.2) 78 [some (.int x0), some (.int x1), some (.int x2)] [.int (0 : Int32)] (mk c S) from ?_)
            obtain rfl := some_e H
            exact J.nret d_M_did_78 rfl rfl rfl
          · have H := ite_t H q8
            refine J.run b_M_did_73_1 k_M_did_73_1 rfl (show J w (d + 1) m_M_did (n0, z0, some (.int z.1), mk c z.2) 74 [some (.int x0), some (.int x1), some (.int x2)] [.int (1 : Int32)] (mk c S) from ?_)
            refine J.goto (tgt := 78) d_M_did_74 rfl ?_
            obtain rfl := some_e H
            exact J.nret d_M_did_78 rfl rfl rfl
        · have H := ite_f H q7
          refine J.tsOut (tgt := 79) d_M_did_1 (tsO fun k h1 h2 => ?_) rfl ?_
          · rcases (show k = 20000 ∨ k = 20001 ∨ k = 20002 ∨ k = 20003 by omega) with rfl | rfl | rfl | rfl
            · exact lv_neT q1 rfl
            · exact lv_neT q3 rfl
            · exact lv_neT q5 rfl
            · exact lv_neT q7 rfl
          · refine J.run b_M_did_79_2 k_M_did_79_2 rfl (show J w (d + 1) m_M_did (n0, z0, some (.int z.1), mk c z.2) 81 [some (.int x0), some (.int x1), some (.int x2)] [.int x2, .int x1] (mk c S) from ?_)
            refine J.cle (tgt := 88) d_M_did_81 rfl (fun q9 => ?_) (fun q9 => ?_)
            · have H := ite_t H q9
              refine J.run b_M_did_88_1 k_M_did_88_1 rfl (show J w (d + 1) m_M_did (n0, z0, some (.int z.1), mk c z.2) 89 [some (.int x0), some (.int x1), some (.int x2)] [.int (0 : Int32)] (mk c S) from ?_)
              obtain rfl := some_e H
              exact J.nret d_M_did_89 rfl rfl rfl
            · have H := ite_f H q9
              refine J.run b_M_did_84_1 k_M_did_84_1 rfl (show J w (d + 1) m_M_did (n0, z0, some (.int z.1), mk c z.2) 85 [some (.int x0), some (.int x1), some (.int x2)] [.int (1 : Int32)] (mk c S) from ?_)
              refine J.goto (tgt := 89) d_M_did_85 rfl ?_
              obtain rfl := some_e H
              exact J.nret d_M_did_89 rfl rfl rfl
def b_M_factOf_0_1 : List Ins := [(.iload_n 1, 0, 0, 0)]
theorem k_M_factOf_0_1 : bok m_M_factOf 0 b_M_factOf_0_1 = true := by decide +kernel
def b_M_factOf_36_2 : List Ins := [(.aload_n 0, 0, 0, 0), (.iload_n 3, 0, 0, 0)]
theorem k_M_factOf_36_2 : bok m_M_factOf 36 b_M_factOf_36_2 = true := by decide +kernel
def b_M_factOf_42_2 : List Ins := [(.aload_n 0, 0, 0, 0), (.iload_n 2, 0, 0, 0)]
theorem k_M_factOf_42_2 : bok m_M_factOf 42 b_M_factOf_42_2 = true := by decide +kernel
def b_M_factOf_48_4 : List Ins := [(.aload_n 0, 0, 0, 0), (.iload_n 3, 0, 0, 0), (.iconst (2), 0, 0, 0), (.idiv, 0, 0, 0)]
theorem k_M_factOf_48_4 : bok m_M_factOf 48 b_M_factOf_48_4 = true := by decide +kernel
def b_M_factOf_56_4 : List Ins := [(.aload_n 0, 0, 0, 0), (.getfield 9, 11, 0, 2), (.iconst (0), 0, 0, 0), (.iaload, 0, 0, 0)]
theorem k_M_factOf_56_4 : bok m_M_factOf 56 b_M_factOf_56_4 = true := by decide +kernel
def b_M_factOf_63_1 : List Ins := [(.iload 4, 0, 0, 0)]
theorem k_M_factOf_63_1 : bok m_M_factOf 63 b_M_factOf_63_1 = true := by decide +kernel
def b_M_factOf_66_2 : List Ins := [(.aload_n 0, 0, 0, 0), (.iload_n 2, 0, 0, 0)]
theorem k_M_factOf_66_2 : bok m_M_factOf 66 b_M_factOf_66_2 = true := by decide +kernel
theorem d_M_factOf_1 : decode m_M_factOf.2.1 1 = .ok (.tableswitch (65) (0) (4) #[35, 41, 47, 55, 62], 35) := by decide +kernel
theorem d_M_factOf_38 : decode m_M_factOf.2.1 38 = .ok (.invokevirtual 157, 3) := by decide +kernel
theorem d_M_factOf_41 : decode m_M_factOf.2.1 41 = .ok (.ireturn, 1) := by decide +kernel
theorem d_M_factOf_44 : decode m_M_factOf.2.1 44 = .ok (.invokevirtual 157, 3) := by decide +kernel
theorem d_M_factOf_47 : decode m_M_factOf.2.1 47 = .ok (.ireturn, 1) := by decide +kernel
theorem d_M_factOf_52 : decode m_M_factOf.2.1 52 = .ok (.invokevirtual 142, 3) := by decide +kernel
theorem d_M_factOf_55 : decode m_M_factOf.2.1 55 = .ok (.ireturn, 1) := by decide +kernel
theorem d_M_factOf_62 : decode m_M_factOf.2.1 62 = .ok (.ireturn, 1) := by decide +kernel
theorem d_M_factOf_65 : decode m_M_factOf.2.1 65 = .ok (.ireturn, 1) := by decide +kernel
theorem d_M_factOf_68 : decode m_M_factOf.2.1 68 = .ok (.invokevirtual 130, 3) := by decide +kernel
theorem d_M_factOf_71 : decode m_M_factOf.2.1 71 = .ok (.ireturn, 1) := by decide +kernel
def f_M_factOf  (S : hs) (x1 : Int32) (x2 : Int32) (x3 : Int32) (x4 : Int32) : Option (Int32 × hs) := (if x1 = (0 : Int32) then bd (f_M_broadOf  S x3) fun r2 S3 => some (r2, S3) else (if x1 = (1 : Int32) then bd (f_M_broadOf  S x2) fun r6 S7 => some (r6, S7) else (if x1 = (2 : Int32) then bd (f_M_longOf  S (x3 / (2 : Int32))) fun r10 S11 => some (r10, S11) else (if x1 = (3 : Int32) then some ((gI S 192 0), S) else (if x1 = (4 : Int32) then some (x4, S) else bd (f_M_endOf  S x2) fun r15 S16 => some (r15, S16))))))
theorem c_M_factOf (w : Wd) (d : Nat) (c : cx)   (S : hs) (x1 : Int32) (x2 : Int32) (x3 : Int32) (x4 : Int32)  {z : Int32 × hs} (H : f_M_factOf S x1 x2 x3 x4 = some z) : Cl w (d + 3) m_M_factOf [.ref 191, .int x1, .int x2, .int x3, .int x4] (mk c S) (some (.int z.1)) (mk c z.2) := by
  refine Cl.of (Nat.le_refl _) (Nat.le_refl _) (by decide +kernel) (Nat.le_of_ble_eq_true rfl) ?_
  unfold f_M_factOf at H
  generalize hN (mk c S) = n0
  generalize hZ (mk c S) = z0
  show J w (d + 3) m_M_factOf (n0, z0, some (.int z.1), mk c z.2) 0 [some (.ref 191), some (.int x1), some (.int x2), some (.int x3), some (.int x4)] [] (mk c S)
  refine J.run b_M_factOf_0_1 k_M_factOf_0_1 rfl (show J w (d + 3) m_M_factOf (n0, z0, some (.int z.1), mk c z.2) 1 [some (.ref 191), some (.int x1), some (.int x2), some (.int x3), some (.int x4)] [.int x1] (mk c S) from ?_)
  by_cases q1 : x1 = (0 : Int32)
  · have H := ite_t H q1
    refine J.tsIn (off := 35) (tgt := 36) d_M_factOf_1 (by rw [q1]; decide) (by rw [q1]; decide) (by rw [q1]; rfl) rfl ?_
    refine J.run b_M_factOf_36_2 k_M_factOf_36_2 rfl (show J w (d + 3) m_M_factOf (n0, z0, some (.int z.1), mk c z.2) 38 [some (.ref 191), some (.int x1), some (.int x2), some (.int x3), some (.int x4)] [.int x3, .ref 191] (mk c S) from ?_)
    obtain ⟨r2, S3, h4, H⟩ := bd_e H
    refine J.callV (y := m_M_broadOf) (av := [.int x3]) (rest := []) (q := 191) l_M_157 d_M_factOf_38 (isC_st rfl rfl) (c_M_broadOf w (d + 0) c  S x3 h4) rfl (Nat.le_of_ble_eq_true rfl) ⟨Nat.le_refl _, Nat.le_refl _⟩ (show J w (d + 3) m_M_factOf (n0, z0, some (.int z.1), mk c z.2) 41 [some (.ref 191), some (.int x1), some (.int x2), some (.int x3), some (.int x4)] [.int r2] (mk c S3) from ?_)
    obtain rfl := some_e H
    exact J.iret d_M_factOf_41 rfl rfl
  · have H := ite_f H q1
    by_cases q5 : x1 = (1 : Int32)
    · have H := ite_t H q5
      refine J.tsIn (off := 41) (tgt := 42) d_M_factOf_1 (by rw [q5]; decide) (by rw [q5]; decide) (by rw [q5]; rfl) rfl ?_
      refine J.run b_M_factOf_42_2 k_M_factOf_42_2 rfl (show J w (d + 3) m_M_factOf (n0, z0, some (.int z.1), mk c z.2) 44 [some (.ref 191), some (.int x1), some (.int x2), some (.int x3), some (.int x4)] [.int x2, .ref 191] (mk c S) from ?_)
      obtain ⟨r6, S7, h8, H⟩ := bd_e H
      refine J.callV (y := m_M_broadOf) (av := [.int x2]) (rest := []) (q := 191) l_M_157 d_M_factOf_44 (isC_st rfl rfl) (c_M_broadOf w (d + 0) c  S x2 h8) rfl (Nat.le_of_ble_eq_true rfl) ⟨Nat.le_refl _, Nat.le_refl _⟩ (show J w (d + 3) m_M_factOf (n0, z0, some (.int z.1), mk c z.2) 47 [some (.ref 191), some (.int x1), some (.int x2), some (.int x3), some (.int x4)] [.int r6] (mk c S7) from ?_)
      obtain rfl := some_e H
      exact J.iret d_M_factOf_47 rfl rfl
    · have H := ite_f H q5
      by_cases q9 : x1 = (2 : Int32)
      · have H := ite_t H q9
        refine J.tsIn (off := 47) (tgt := 48) d_M_factOf_1 (by rw [q9]; decide) (by rw [q9]; decide) (by rw [q9]; rfl) rfl ?_
        refine J.run b_M_factOf_48_4 k_M_factOf_48_4 rfl (And.intro (by decide) (show J w (d + 3) m_M_factOf (n0, z0, some (.int z.1), mk c z.2) 52 [some (.ref 191), some (.int x1), some (.int x2), some (.int x3), some (.int x4)] [.int (x3 / (2 : Int32)), .ref 191] (mk c S) from ?_))
        obtain ⟨r10, S11, h12, H⟩ := bd_e H
        refine J.callV (y := m_M_longOf) (av := [.int (x3 / (2 : Int32))]) (rest := []) (q := 191) l_M_142 d_M_factOf_52 (isC_st rfl rfl) (c_M_longOf w (d + 0) c  S (x3 / (2 : Int32)) h12) rfl (Nat.le_of_ble_eq_true rfl) ⟨Nat.le_refl _, Nat.le_refl _⟩ (show J w (d + 3) m_M_factOf (n0, z0, some (.int z.1), mk c z.2) 55 [some (.ref 191), some (.int x1), some (.int x2), some (.int x3), some (.int x4)] [.int r10] (mk c S11) from ?_)
        obtain rfl := some_e H
        exact J.iret d_M_factOf_55 rfl rfl
      · have H := ite_f H q9
        by_cases q13 : x1 = (3 : Int32)
        · have H := ite_t H q13
          refine J.tsIn (off := 55) (tgt := 56) d_M_factOf_1 (by rw [q13]; decide) (by rw [q13]; decide) (by rw [q13]; rfl) rfl ?_
          refine J.run b_M_factOf_56_4 k_M_factOf_56_4 rfl (And.intro (okO_st (S := S) rfl) (And.intro (okA_st (S := S) (n := 358) rfl rfl) (show J w (d + 3) m_M_factOf (n0, z0, some (.int z.1), mk c z.2) 62 [some (.ref 191), some (.int x1), some (.int x2), some (.int x3), some (.int x4)] [.int (gI S 192 0)] (mk c S) from ?_)))
          obtain rfl := some_e H
          exact J.iret d_M_factOf_62 rfl rfl
        · have H := ite_f H q13
          by_cases q14 : x1 = (4 : Int32)
          · have H := ite_t H q14
            refine J.tsIn (off := 62) (tgt := 63) d_M_factOf_1 (by rw [q14]; decide) (by rw [q14]; decide) (by rw [q14]; rfl) rfl ?_
            refine J.run b_M_factOf_63_1 k_M_factOf_63_1 rfl (show J w (d + 3) m_M_factOf (n0, z0, some (.int z.1), mk c z.2) 65 [some (.ref 191), some (.int x1), some (.int x2), some (.int x3), some (.int x4)] [.int x4] (mk c S) from ?_)
            obtain rfl := some_e H
            exact J.iret d_M_factOf_65 rfl rfl
          · have H := ite_f H q14
            refine J.tsOut (tgt := 66) d_M_factOf_1 (tsO fun k h1 h2 => ?_) rfl ?_
            · rcases (show k = 0 ∨ k = 1 ∨ k = 2 ∨ k = 3 ∨ k = 4 by omega) with rfl | rfl | rfl | rfl | rfl
              · exact lv_neT q1 rfl
              · exact lv_neT q5 rfl
              · exact lv_neT q9 rfl
              · exact lv_neT q13 rfl
              · exact lv_neT q14 rfl
            · refine J.run b_M_factOf_66_2 k_M_factOf_66_2 rfl (show J w (d + 3) m_M_factOf (n0, z0, some (.int z.1), mk c z.2) 68 [some (.ref 191), some (.int x1), some (.int x2), some (.int x3), some (.int x4)] [.int x2, .ref 191] (mk c S) from ?_)
              obtain ⟨r15, S16, h17, H⟩ := bd_e H
              refine J.callV (y := m_M_endOf) (av := [.int x2]) (rest := []) (q := 191) l_M_130 d_M_factOf_68 (isC_st rfl rfl) (c_M_endOf w (d + 0) c  S x2 h17) rfl (Nat.le_of_ble_eq_true rfl) ⟨Nat.le_refl _, Nat.le_refl _⟩ (show J w (d + 3) m_M_factOf (n0, z0, some (.int z.1), mk c z.2) 71 [some (.ref 191), some (.int x1), some (.int x2), some (.int x3), some (.int x4)] [.int r15] (mk c S16) from ?_)
              obtain rfl := some_e H
              exact J.iret d_M_factOf_71 rfl rfl
def b_M_holds_0_9 : List Ins := [(.iconst (0), 0, 0, 0), (.istore 6, 0, 0, 0), (.aload_n 0, 0, 0, 0), (.getfield 65, 11, 17, 2), (.iconst (0), 0, 0, 0), (.iconst (1), 0, 0, 0), (.iastore, 0, 0, 0), (.iload_n 1, 0, 0, 0), (.istore 7, 0, 0, 0)]
theorem k_M_holds_0_9 : bok m_M_holds 0 b_M_holds_0_9 = true := by decide +kernel
def b_M_holds_13_2 : List Ins := [(.iload 7, 0, 0, 0), (.iload_n 2, 0, 0, 0)]
theorem k_M_holds_13_2 : bok m_M_holds 13 b_M_holds_13_2 = true := by decide +kernel
def b_M_holds_19_9 : List Ins := [(.aload_n 0, 0, 0, 0), (.getfield 9, 11, 0, 2), (.sipush (141), 0, 0, 0), (.iload 7, 0, 0, 0), (.iadd, 0, 0, 0), (.iaload, 0, 0, 0), (.istore 8, 0, 0, 0), (.iload 8, 0, 0, 0), (.sipush (20000), 0, 0, 0)]
theorem k_M_holds_19_9 : bok m_M_holds 19 b_M_holds_19_9 = true := by decide +kernel
def b_M_holds_81_2 : List Ins := [(.iload 8, 0, 0, 0), (.sipush (20005), 0, 0, 0)]
theorem k_M_holds_81_2 : bok m_M_holds 81 b_M_holds_81_2 = true := by decide +kernel
def b_M_holds_112_17 : List Ins := [(.iinc 6 (-1), 0, 0, 0), (.aload_n 0, 0, 0, 0), (.getfield 65, 11, 17, 2), (.iload 6, 0, 0, 0), (.iconst (1), 0, 0, 0), (.isub, 0, 0, 0), (.iload 8, 0, 0, 0), (.aload_n 0, 0, 0, 0), (.getfield 65, 11, 17, 2), (.iload 6, 0, 0, 0), (.iconst (1), 0, 0, 0), (.isub, 0, 0, 0), (.iaload, 0, 0, 0), (.aload_n 0, 0, 0, 0), (.getfield 65, 11, 17, 2), (.iload 6, 0, 0, 0), (.iaload, 0, 0, 0)]
theorem k_M_holds_112_17 : bok m_M_holds 112 b_M_holds_112_17 = true := by decide +kernel
def b_M_holds_151_3 : List Ins := [(.iconst (0), 0, 0, 0), (.iastore, 0, 0, 0), (.iinc 7 (1), 0, 0, 0)]
theorem k_M_holds_151_3 : bok m_M_holds 151 b_M_holds_151_3 = true := by decide +kernel
def b_M_holds_147_1 : List Ins := [(.iconst (1), 0, 0, 0)]
theorem k_M_holds_147_1 : bok m_M_holds 147 b_M_holds_147_1 = true := by decide +kernel
def b_M_holds_152_2 : List Ins := [(.iastore, 0, 0, 0), (.iinc 7 (1), 0, 0, 0)]
theorem k_M_holds_152_2 : bok m_M_holds 152 b_M_holds_152_2 = true := by decide +kernel
def b_M_holds_89_14 : List Ins := [(.aload_n 0, 0, 0, 0), (.getfield 65, 11, 17, 2), (.iload 6, 0, 0, 0), (.iconst (1), 0, 0, 0), (.isub, 0, 0, 0), (.iconst (1), 0, 0, 0), (.aload_n 0, 0, 0, 0), (.getfield 65, 11, 17, 2), (.iload 6, 0, 0, 0), (.iconst (1), 0, 0, 0), (.isub, 0, 0, 0), (.iaload, 0, 0, 0), (.isub, 0, 0, 0), (.iastore, 0, 0, 0)]
theorem k_M_holds_89_14 : bok m_M_holds 89 b_M_holds_89_14 = true := by decide +kernel
def b_M_holds_153_1 : List Ins := [(.iinc 7 (1), 0, 0, 0)]
theorem k_M_holds_153_1 : bok m_M_holds 153 b_M_holds_153_1 = true := by decide +kernel
def b_M_holds_40_5 : List Ins := [(.aload_n 0, 0, 0, 0), (.getfield 65, 11, 17, 2), (.iload 6, 0, 0, 0), (.iload 8, 0, 0, 0), (.sipush (10000), 0, 0, 0)]
theorem k_M_holds_40_5 : bok m_M_holds 40 b_M_holds_40_5 = true := by decide +kernel
def b_M_holds_59_7 : List Ins := [(.aload_n 0, 0, 0, 0), (.iload 8, 0, 0, 0), (.sipush (10000), 0, 0, 0), (.isub, 0, 0, 0), (.iload_n 3, 0, 0, 0), (.iload 4, 0, 0, 0), (.iload 5, 0, 0, 0)]
theorem k_M_holds_59_7 : bok m_M_holds 59 b_M_holds_59_7 = true := by decide +kernel
def b_M_holds_74_2 : List Ins := [(.iastore, 0, 0, 0), (.iinc 6 (1), 0, 0, 0)]
theorem k_M_holds_74_2 : bok m_M_holds 74 b_M_holds_74_2 = true := by decide +kernel
def b_M_holds_54_1 : List Ins := [(.iload 8, 0, 0, 0)]
theorem k_M_holds_54_1 : bok m_M_holds 54 b_M_holds_54_1 = true := by decide +kernel
def b_M_holds_159_5 : List Ins := [(.aload_n 0, 0, 0, 0), (.getfield 65, 11, 17, 2), (.iconst (0), 0, 0, 0), (.iaload, 0, 0, 0), (.iconst (1), 0, 0, 0)]
theorem k_M_holds_159_5 : bok m_M_holds 159 b_M_holds_159_5 = true := by decide +kernel
def b_M_holds_173_1 : List Ins := [(.iconst (0), 0, 0, 0)]
theorem k_M_holds_173_1 : bok m_M_holds 173 b_M_holds_173_1 = true := by decide +kernel
def b_M_holds_169_1 : List Ins := [(.iconst (1), 0, 0, 0)]
theorem k_M_holds_169_1 : bok m_M_holds 169 b_M_holds_169_1 = true := by decide +kernel
theorem d_M_holds_16 : decode m_M_holds.2.1 16 = .ok (.if_icmp .ge (143), 3) := by decide +kernel
theorem d_M_holds_37 : decode m_M_holds.2.1 37 = .ok (.if_icmp .ge (44), 3) := by decide +kernel
theorem d_M_holds_86 : decode m_M_holds.2.1 86 = .ok (.if_icmp .ne (26), 3) := by decide +kernel
theorem d_M_holds_141 : decode m_M_holds.2.1 141 = .ok (.invokestatic 267, 3) := by decide +kernel
theorem d_M_holds_144 : decode m_M_holds.2.1 144 = .ok (.ifCond .eq (7), 3) := by decide +kernel
theorem d_M_holds_156 : decode m_M_holds.2.1 156 = .ok (.goto (-143), 3) := by decide +kernel
theorem d_M_holds_148 : decode m_M_holds.2.1 148 = .ok (.goto (4), 3) := by decide +kernel
theorem d_M_holds_109 : decode m_M_holds.2.1 109 = .ok (.goto (44), 3) := by decide +kernel
theorem d_M_holds_51 : decode m_M_holds.2.1 51 = .ok (.if_icmp .ge (8), 3) := by decide +kernel
theorem d_M_holds_71 : decode m_M_holds.2.1 71 = .ok (.invokevirtual 263, 3) := by decide +kernel
theorem d_M_holds_78 : decode m_M_holds.2.1 78 = .ok (.goto (75), 3) := by decide +kernel
theorem d_M_holds_56 : decode m_M_holds.2.1 56 = .ok (.goto (18), 3) := by decide +kernel
theorem d_M_holds_166 : decode m_M_holds.2.1 166 = .ok (.if_icmp .ne (7), 3) := by decide +kernel
theorem d_M_holds_174 : decode m_M_holds.2.1 174 = .ok (.ireturn, 1) := by decide +kernel
theorem d_M_holds_170 : decode m_M_holds.2.1 170 = .ok (.goto (4), 3) := by decide +kernel
def lp_M_holds_13 (x2 : Int32) (x3 : Int32) (x4 : Int32) (x5 : Int32)  (K0 : hs → Int32 → Int32 → Option (Int32 × hs)) : Nat → hs → Int32 → Int32 → Option (Int32 × hs)
  | 0, _, _, _ => none
  | n + 1, S, x6, x7 => (if x2 ≤ x7 then K0 S x6 x7 else ck (inb ((141 : Int32) + x7) 358) ((if (20000 : Int32) ≤ (gI S 192 (((141 : Int32) + x7)).toNatClampNeg) then (if (gI S 192 (((141 : Int32) + x7)).toNatClampNeg) = (20005 : Int32) then ck (inb (x6 - (1 : Int32)) 40) (lp_M_holds_13 x2 x3 x4 x5 K0 n (uI S 200 ((x6 - (1 : Int32))).toNatClampNeg ((1 : Int32) - (gI S 200 ((x6 - (1 : Int32))).toNatClampNeg))) x6 (x7 + (1 : Int32))) else ck (inb ((x6 + (-1 : Int32)) - (1 : Int32)) 40) (ck (inb (x6 + (-1 : Int32)) 40) (bd (f_M_did  S (gI S 192 (((141 : Int32) + x7)).toNatClampNeg) (gI S 200 (((x6 + (-1 : Int32)) - (1 : Int32))).toNatClampNeg) (gI S 200 ((x6 + (-1 : Int32))).toNatClampNeg)) fun r7 S8 => (if r7 = 0 then lp_M_holds_13 x2 x3 x4 x5 K0 n (uI S8 200 (((x6 + (-1 : Int32)) - (1 : Int32))).toNatClampNeg (0 : Int32)) (x6 + (-1 : Int32)) (x7 + (1 : Int32)) else lp_M_holds_13 x2 x3 x4 x5 K0 n (uI S8 200 (((x6 + (-1 : Int32)) - (1 : Int32))).toNatClampNeg (1 : Int32)) (x6 + (-1 : Int32)) (x7 + (1 : Int32)))))) else (if (10000 : Int32) ≤ (gI S 192 (((141 : Int32) + x7)).toNatClampNeg) then bd (f_M_factOf  S ((gI S 192 (((141 : Int32) + x7)).toNatClampNeg) - (10000 : Int32)) x3 x4 x5) fun r13 S14 => ck (inb x6 40) (lp_M_holds_13 x2 x3 x4 x5 K0 n (uI S14 200 (x6).toNatClampNeg r13) (x6 + (1 : Int32)) (x7 + (1 : Int32))) else ck (inb x6 40) (lp_M_holds_13 x2 x3 x4 x5 K0 n (uI S 200 (x6).toNatClampNeg (gI S 192 (((141 : Int32) + x7)).toNatClampNeg)) (x6 + (1 : Int32)) (x7 + (1 : Int32)))))))
def f_M_holds  (S : hs) (x1 : Int32) (x2 : Int32) (x3 : Int32) (x4 : Int32) (x5 : Int32) : Option (Int32 × hs) := lp_M_holds_13 x2 x3 x4 x5 (fun (S18 : hs) (y19 : Int32) (y20 : Int32) => (if (gI S18 200 0) = (1 : Int32) then some ((1 : Int32), S18) else some ((0 : Int32), S18))) 1000 (uI S 200 0 (1 : Int32)) (0 : Int32) x1
theorem lo_M_holds_13 (w : Wd) (d : Nat) (c : cx) {n0 z0 : Nat} {z : Int32 × hs}  {K0 : hs → Int32 → Int32 → Option (Int32 × hs)} (x2 : Int32) (x3 : Int32) (x4 : Int32) (x5 : Int32)   (hK0 : ∀ (S : hs) (x6 : Int32) (x7 : Int32), K0 S x6 x7 = some z → J w (d + 4) m_M_holds (n0, z0, some (.int z.1), mk c z.2) 159 [some (.ref 191), none, none, none, none, none, none, none, none] [] (mk c S)) :
    ∀ (n : Nat) (S : hs) (x6 : Int32) (x7 : Int32), lp_M_holds_13 x2 x3 x4 x5 K0 n S x6 x7 = some z → J w (d + 4) m_M_holds (n0, z0, some (.int z.1), mk c z.2) 13 [some (.ref 191), none, some (.int x2), some (.int x3), some (.int x4), some (.int x5), some (.int x6), some (.int x7), none] [] (mk c S) := by
  intro n
  induction n with
  | zero => intro S x6 x7 H; cases H
  | succ n ih =>
    intro S x6 x7 H
    rw [lp_M_holds_13] at H
    refine J.run b_M_holds_13_2 k_M_holds_13_2 rfl (show J w (d + 4) m_M_holds (n0, z0, some (.int z.1), mk c z.2) 16 [some (.ref 191), none, some (.int x2), some (.int x3), some (.int x4), some (.int x5), some (.int x6), some (.int x7), none] [.int x2, .int x7] (mk c S) from ?_)
    refine J.cge (tgt := 159) d_M_holds_16 rfl (fun q1 => ?_) (fun q1 => ?_)
    · have H := ite_t H q1
      refine J.mask [true, false, false, false, false, false, false, false, false] ?_
      exact hK0 S x6 x7 H
    · have H := ite_f H q1
      obtain ⟨g2, H⟩ := ck_e H
      refine J.run b_M_holds_19_9 k_M_holds_19_9 rfl (And.intro (okO_st (S := S) rfl) (And.intro (okA_st (S := S) (n := 358) rfl g2) (show J w (d + 4) m_M_holds (n0, z0, some (.int z.1), mk c z.2) 37 [some (.ref 191), none, some (.int x2), some (.int x3), some (.int x4), some (.int x5), some (.int x6), some (.int x7), some (.int (gI S 192 (((141 : Int32) + x7)).toNatClampNeg))] [.int (20000 : Int32), .int (gI S 192 (((141 : Int32) + x7)).toNatClampNeg)] (mk c S) from ?_)))
      refine J.cge (tgt := 81) d_M_holds_37 rfl (fun q3 => ?_) (fun q3 => ?_)
      · have H := ite_t H q3
        refine J.run b_M_holds_81_2 k_M_holds_81_2 rfl (show J w (d + 4) m_M_holds (n0, z0, some (.int z.1), mk c z.2) 86 [some (.ref 191), none, some (.int x2), some (.int x3), some (.int x4), some (.int x5), some (.int x6), some (.int x7), some (.int (gI S 192 (((141 : Int32) + x7)).toNatClampNeg))] [.int (20005 : Int32), .int (gI S 192 (((141 : Int32) + x7)).toNatClampNeg)] (mk c S) from ?_)
        refine J.cne (tgt := 112) d_M_holds_86 rfl (fun q4 => ?_) (fun q4 => ?_)
        · have H := ite_f H q4
          obtain ⟨g5, H⟩ := ck_e H
          obtain ⟨g6, H⟩ := ck_e H
          refine J.run b_M_holds_112_17 k_M_holds_112_17 rfl (And.intro (okO_st (S := S) rfl) (And.intro (okO_st (S := S) rfl) (And.intro (okA_st (S := S) (n := 40) rfl g5) (And.intro (okO_st (S := S) rfl) (And.intro (okA_st (S := S) (n := 40) rfl g6) (show J w (d + 4) m_M_holds (n0, z0, some (.int z.1), mk c z.2) 141 [some (.ref 191), none, some (.int x2), some (.int x3), some (.int x4), some (.int x5), some (.int (x6 + (-1 : Int32))), some (.int x7), some (.int (gI S 192 (((141 : Int32) + x7)).toNatClampNeg))] [.int (gI S 200 ((x6 + (-1 : Int32))).toNatClampNeg), .int (gI S 200 (((x6 + (-1 : Int32)) - (1 : Int32))).toNatClampNeg), .int (gI S 192 (((141 : Int32) + x7)).toNatClampNeg), .int ((x6 + (-1 : Int32)) - (1 : Int32)), .ref 200] (mk c S) from ?_))))))
          obtain ⟨r7, S8, h9, H⟩ := bd_e H
          refine J.callS (y := m_M_did) (av := [.int (gI S 192 (((141 : Int32) + x7)).toNatClampNeg), .int (gI S 200 (((x6 + (-1 : Int32)) - (1 : Int32))).toNatClampNeg), .int (gI S 200 ((x6 + (-1 : Int32))).toNatClampNeg)]) (rest := [.int ((x6 + (-1 : Int32)) - (1 : Int32)), .ref 200]) l_M_267 d_M_holds_141 (c_M_did w (d + 2) c  S (gI S 192 (((141 : Int32) + x7)).toNatClampNeg) (gI S 200 (((x6 + (-1 : Int32)) - (1 : Int32))).toNatClampNeg) (gI S 200 ((x6 + (-1 : Int32))).toNatClampNeg) h9) rfl (Nat.le_of_ble_eq_true rfl) ⟨Nat.le_refl _, Nat.le_refl _⟩ (show J w (d + 4) m_M_holds (n0, z0, some (.int z.1), mk c z.2) 144 [some (.ref 191), none, some (.int x2), some (.int x3), some (.int x4), some (.int x5), some (.int (x6 + (-1 : Int32))), some (.int x7), some (.int (gI S 192 (((141 : Int32) + x7)).toNatClampNeg))] [.int r7, .int ((x6 + (-1 : Int32)) - (1 : Int32)), .ref 200] (mk c S8) from ?_)
          refine J.zeq (tgt := 151) d_M_holds_144 rfl (fun q10 => ?_) (fun q10 => ?_)
          · have H := ite_t H q10
            refine J.run b_M_holds_151_3 k_M_holds_151_3 rfl (And.intro (okB_st (S := S8) (n := 40) rfl g5) (show J w (d + 4) m_M_holds (n0, z0, some (.int z.1), mk c z.2) 156 [some (.ref 191), none, some (.int x2), some (.int x3), some (.int x4), some (.int x5), some (.int (x6 + (-1 : Int32))), some (.int (x7 + (1 : Int32))), some (.int (gI S 192 (((141 : Int32) + x7)).toNatClampNeg))] [] (mk c (uI S8 200 (((x6 + (-1 : Int32)) - (1 : Int32))).toNatClampNeg (0 : Int32))) from ?_))
            refine J.goto (tgt := 13) d_M_holds_156 rfl ?_
            refine J.mask [true, false, true, true, true, true, true, true, false] ?_
            exact ih (uI S8 200 (((x6 + (-1 : Int32)) - (1 : Int32))).toNatClampNeg (0 : Int32)) (x6 + (-1 : Int32)) (x7 + (1 : Int32)) H
          · have H := ite_f H q10
            refine J.run b_M_holds_147_1 k_M_holds_147_1 rfl (show J w (d + 4) m_M_holds (n0, z0, some (.int z.1), mk c z.2) 148 [some (.ref 191), none, some (.int x2), some (.int x3), some (.int x4), some (.int x5), some (.int (x6 + (-1 : Int32))), some (.int x7), some (.int (gI S 192 (((141 : Int32) + x7)).toNatClampNeg))] [.int (1 : Int32), .int ((x6 + (-1 : Int32)) - (1 : Int32)), .ref 200] (mk c S8) from ?_)
            refine J.goto (tgt := 152) d_M_holds_148 rfl ?_
            refine J.run b_M_holds_152_2 k_M_holds_152_2 rfl (And.intro (okB_st (S := S8) (n := 40) rfl g5) (show J w (d + 4) m_M_holds (n0, z0, some (.int z.1), mk c z.2) 156 [some (.ref 191), none, some (.int x2), some (.int x3), some (.int x4), some (.int x5), some (.int (x6 + (-1 : Int32))), some (.int (x7 + (1 : Int32))), some (.int (gI S 192 (((141 : Int32) + x7)).toNatClampNeg))] [] (mk c (uI S8 200 (((x6 + (-1 : Int32)) - (1 : Int32))).toNatClampNeg (1 : Int32))) from ?_))
            refine J.goto (tgt := 13) d_M_holds_156 rfl ?_
            refine J.mask [true, false, true, true, true, true, true, true, false] ?_
            exact ih (uI S8 200 (((x6 + (-1 : Int32)) - (1 : Int32))).toNatClampNeg (1 : Int32)) (x6 + (-1 : Int32)) (x7 + (1 : Int32)) H
        · have H := ite_t H q4
          obtain ⟨g11, H⟩ := ck_e H
          refine J.run b_M_holds_89_14 k_M_holds_89_14 rfl (And.intro (okO_st (S := S) rfl) (And.intro (okO_st (S := S) rfl) (And.intro (okA_st (S := S) (n := 40) rfl g11) (And.intro (okB_st (S := S) (n := 40) rfl g11) (show J w (d + 4) m_M_holds (n0, z0, some (.int z.1), mk c z.2) 109 [some (.ref 191), none, some (.int x2), some (.int x3), some (.int x4), some (.int x5), some (.int x6), some (.int x7), some (.int (gI S 192 (((141 : Int32) + x7)).toNatClampNeg))] [] (mk c (uI S 200 ((x6 - (1 : Int32))).toNatClampNeg ((1 : Int32) - (gI S 200 ((x6 - (1 : Int32))).toNatClampNeg)))) from ?_)))))
          refine J.goto (tgt := 153) d_M_holds_109 rfl ?_
          refine J.run b_M_holds_153_1 k_M_holds_153_1 rfl (show J w (d + 4) m_M_holds (n0, z0, some (.int z.1), mk c z.2) 156 [some (.ref 191), none, some (.int x2), some (.int x3), some (.int x4), some (.int x5), some (.int x6), some (.int (x7 + (1 : Int32))), some (.int (gI S 192 (((141 : Int32) + x7)).toNatClampNeg))] [] (mk c (uI S 200 ((x6 - (1 : Int32))).toNatClampNeg ((1 : Int32) - (gI S 200 ((x6 - (1 : Int32))).toNatClampNeg)))) from ?_)
          refine J.goto (tgt := 13) d_M_holds_156 rfl ?_
          refine J.mask [true, false, true, true, true, true, true, true, false] ?_
          exact ih (uI S 200 ((x6 - (1 : Int32))).toNatClampNeg ((1 : Int32) - (gI S 200 ((x6 - (1 : Int32))).toNatClampNeg))) x6 (x7 + (1 : Int32)) H
      · have H := ite_f H q3
        refine J.run b_M_holds_40_5 k_M_holds_40_5 rfl (And.intro (okO_st (S := S) rfl) (show J w (d + 4) m_M_holds (n0, z0, some (.int z.1), mk c z.2) 51 [some (.ref 191), none, some (.int x2), some (.int x3), some (.int x4), some (.int x5), some (.int x6), some (.int x7), some (.int (gI S 192 (((141 : Int32) + x7)).toNatClampNeg))] [.int (10000 : Int32), .int (gI S 192 (((141 : Int32) + x7)).toNatClampNeg), .int x6, .ref 200] (mk c S) from ?_))
        refine J.cge (tgt := 59) d_M_holds_51 rfl (fun q12 => ?_) (fun q12 => ?_)
        · have H := ite_t H q12
          refine J.run b_M_holds_59_7 k_M_holds_59_7 rfl (show J w (d + 4) m_M_holds (n0, z0, some (.int z.1), mk c z.2) 71 [some (.ref 191), none, some (.int x2), some (.int x3), some (.int x4), some (.int x5), some (.int x6), some (.int x7), some (.int (gI S 192 (((141 : Int32) + x7)).toNatClampNeg))] [.int x5, .int x4, .int x3, .int ((gI S 192 (((141 : Int32) + x7)).toNatClampNeg) - (10000 : Int32)), .ref 191, .int x6, .ref 200] (mk c S) from ?_)
          obtain ⟨r13, S14, h15, H⟩ := bd_e H
          refine J.callV (y := m_M_factOf) (av := [.int ((gI S 192 (((141 : Int32) + x7)).toNatClampNeg) - (10000 : Int32)), .int x3, .int x4, .int x5]) (rest := [.int x6, .ref 200]) (q := 191) l_M_263 d_M_holds_71 (isC_st rfl rfl) (c_M_factOf w (d + 0) c  S ((gI S 192 (((141 : Int32) + x7)).toNatClampNeg) - (10000 : Int32)) x3 x4 x5 h15) rfl (Nat.le_of_ble_eq_true rfl) ⟨Nat.le_refl _, Nat.le_refl _⟩ (show J w (d + 4) m_M_holds (n0, z0, some (.int z.1), mk c z.2) 74 [some (.ref 191), none, some (.int x2), some (.int x3), some (.int x4), some (.int x5), some (.int x6), some (.int x7), some (.int (gI S 192 (((141 : Int32) + x7)).toNatClampNeg))] [.int r13, .int x6, .ref 200] (mk c S14) from ?_)
          obtain ⟨g16, H⟩ := ck_e H
          refine J.run b_M_holds_74_2 k_M_holds_74_2 rfl (And.intro (okB_st (S := S14) (n := 40) rfl g16) (show J w (d + 4) m_M_holds (n0, z0, some (.int z.1), mk c z.2) 78 [some (.ref 191), none, some (.int x2), some (.int x3), some (.int x4), some (.int x5), some (.int (x6 + (1 : Int32))), some (.int x7), some (.int (gI S 192 (((141 : Int32) + x7)).toNatClampNeg))] [] (mk c (uI S14 200 (x6).toNatClampNeg r13)) from ?_))
          refine J.goto (tgt := 153) d_M_holds_78 rfl ?_
          refine J.run b_M_holds_153_1 k_M_holds_153_1 rfl (show J w (d + 4) m_M_holds (n0, z0, some (.int z.1), mk c z.2) 156 [some (.ref 191), none, some (.int x2), some (.int x3), some (.int x4), some (.int x5), some (.int (x6 + (1 : Int32))), some (.int (x7 + (1 : Int32))), some (.int (gI S 192 (((141 : Int32) + x7)).toNatClampNeg))] [] (mk c (uI S14 200 (x6).toNatClampNeg r13)) from ?_)
          refine J.goto (tgt := 13) d_M_holds_156 rfl ?_
          refine J.mask [true, false, true, true, true, true, true, true, false] ?_
          exact ih (uI S14 200 (x6).toNatClampNeg r13) (x6 + (1 : Int32)) (x7 + (1 : Int32)) H
        · have H := ite_f H q12
          refine J.run b_M_holds_54_1 k_M_holds_54_1 rfl (show J w (d + 4) m_M_holds (n0, z0, some (.int z.1), mk c z.2) 56 [some (.ref 191), none, some (.int x2), some (.int x3), some (.int x4), some (.int x5), some (.int x6), some (.int x7), some (.int (gI S 192 (((141 : Int32) + x7)).toNatClampNeg))] [.int (gI S 192 (((141 : Int32) + x7)).toNatClampNeg), .int x6, .ref 200] (mk c S) from ?_)
          refine J.goto (tgt := 74) d_M_holds_56 rfl ?_
          obtain ⟨g17, H⟩ := ck_e H
          refine J.run b_M_holds_74_2 k_M_holds_74_2 rfl (And.intro (okB_st (S := S) (n := 40) rfl g17) (show J w (d + 4) m_M_holds (n0, z0, some (.int z.1), mk c z.2) 78 [some (.ref 191), none, some (.int x2), some (.int x3), some (.int x4), some (.int x5), some (.int (x6 + (1 : Int32))), some (.int x7), some (.int (gI S 192 (((141 : Int32) + x7)).toNatClampNeg))] [] (mk c (uI S 200 (x6).toNatClampNeg (gI S 192 (((141 : Int32) + x7)).toNatClampNeg))) from ?_))
          refine J.goto (tgt := 153) d_M_holds_78 rfl ?_
          refine J.run b_M_holds_153_1 k_M_holds_153_1 rfl (show J w (d + 4) m_M_holds (n0, z0, some (.int z.1), mk c z.2) 156 [some (.ref 191), none, some (.int x2), some (.int x3), some (.int x4), some (.int x5), some (.int (x6 + (1 : Int32))), some (.int (x7 + (1 : Int32))), some (.int (gI S 192 (((141 : Int32) + x7)).toNatClampNeg))] [] (mk c (uI S 200 (x6).toNatClampNeg (gI S 192 (((141 : Int32) + x7)).toNatClampNeg))) from ?_)
          refine J.goto (tgt := 13) d_M_holds_156 rfl ?_
          refine J.mask [true, false, true, true, true, true, true, true, false] ?_
          exact ih (uI S 200 (x6).toNatClampNeg (gI S 192 (((141 : Int32) + x7)).toNatClampNeg)) (x6 + (1 : Int32)) (x7 + (1 : Int32)) H
theorem c_M_holds (w : Wd) (d : Nat) (c : cx)   (S : hs) (x1 : Int32) (x2 : Int32) (x3 : Int32) (x4 : Int32) (x5 : Int32)  {z : Int32 × hs} (H : f_M_holds S x1 x2 x3 x4 x5 = some z) : Cl w (d + 4) m_M_holds [.ref 191, .int x1, .int x2, .int x3, .int x4, .int x5] (mk c S) (some (.int z.1)) (mk c z.2) := by
  refine Cl.of (Nat.le_refl _) (Nat.le_refl _) (by decide +kernel) (Nat.le_of_ble_eq_true rfl) ?_
  unfold f_M_holds at H
  generalize hN (mk c S) = n0
  generalize hZ (mk c S) = z0
  show J w (d + 4) m_M_holds (n0, z0, some (.int z.1), mk c z.2) 0 [some (.ref 191), some (.int x1), some (.int x2), some (.int x3), some (.int x4), some (.int x5), none, none, none] [] (mk c S)
  refine J.run b_M_holds_0_9 k_M_holds_0_9 rfl (And.intro (okO_st (S := S) rfl) (And.intro (okB_st (S := S) (n := 40) rfl rfl) (show J w (d + 4) m_M_holds (n0, z0, some (.int z.1), mk c z.2) 13 [some (.ref 191), some (.int x1), some (.int x2), some (.int x3), some (.int x4), some (.int x5), some (.int (0 : Int32)), some (.int x1), none] [] (mk c (uI S 200 0 (1 : Int32))) from ?_)))
  refine J.mask [true, false, true, true, true, true, true, true, false] ?_
  refine lo_M_holds_13 w d c x2 x3 x4 x5 ?_ 1000 (uI S 200 0 (1 : Int32)) (0 : Int32) x1 H
  · intro S18 y19 y20 H
    try dsimp only at H
    refine J.run b_M_holds_159_5 k_M_holds_159_5 rfl (And.intro (okO_st (S := S18) rfl) (And.intro (okA_st (S := S18) (n := 40) rfl rfl) (show J w (d + 4) m_M_holds (n0, z0, some (.int z.1), mk c z.2) 166 [some (.ref 191), none, none, none, none, none, none, none, none] [.int (1 : Int32), .int (gI S18 200 0)] (mk c S18) from ?_)))
    refine J.cne (tgt := 173) d_M_holds_166 rfl (fun q21 => ?_) (fun q21 => ?_)
    · have H := ite_f H q21
      refine J.run b_M_holds_173_1 k_M_holds_173_1 rfl (show J w (d + 4) m_M_holds (n0, z0, some (.int z.1), mk c z.2) 174 [some (.ref 191), none, none, none, none, none, none, none, none] [.int (0 : Int32)] (mk c S18) from ?_)
      obtain rfl := some_e H
      exact J.nret d_M_holds_174 rfl rfl rfl
    · have H := ite_t H q21
      refine J.run b_M_holds_169_1 k_M_holds_169_1 rfl (show J w (d + 4) m_M_holds (n0, z0, some (.int z.1), mk c z.2) 170 [some (.ref 191), none, none, none, none, none, none, none, none] [.int (1 : Int32)] (mk c S18) from ?_)
      refine J.goto (tgt := 174) d_M_holds_170 rfl ?_
      obtain rfl := some_e H
      exact J.nret d_M_holds_174 rfl rfl rfl
def b_M_saysSo_0_4 : List Ins := [(.iconst (0), 0, 0, 0), (.istore 5, 0, 0, 0), (.iconst (0), 0, 0, 0), (.istore 6, 0, 0, 0)]
theorem k_M_saysSo_0_4 : bok m_M_saysSo 0 b_M_saysSo_0_4 = true := by decide +kernel
def b_M_saysSo_6_5 : List Ins := [(.iload 6, 0, 0, 0), (.aload_n 0, 0, 0, 0), (.getfield 9, 11, 0, 2), (.iconst (4), 0, 0, 0), (.iaload, 0, 0, 0)]
theorem k_M_saysSo_6_5 : bok m_M_saysSo 6 b_M_saysSo_6_5 = true := by decide +kernel
def b_M_saysSo_88_1 : List Ins := [(.iload 5, 0, 0, 0)]
theorem k_M_saysSo_88_1 : bok m_M_saysSo 88 b_M_saysSo_88_1 = true := by decide +kernel
def b_M_saysSo_17_1 : List Ins := [(.iload 5, 0, 0, 0)]
theorem k_M_saysSo_17_1 : bok m_M_saysSo 17 b_M_saysSo_17_1 = true := by decide +kernel
def b_M_saysSo_22_7 : List Ins := [(.iload_n 1, 0, 0, 0), (.aload_n 0, 0, 0, 0), (.getfield 9, 11, 0, 2), (.sipush (350), 0, 0, 0), (.iload 6, 0, 0, 0), (.iadd, 0, 0, 0), (.iaload, 0, 0, 0)]
theorem k_M_saysSo_22_7 : bok m_M_saysSo 22 b_M_saysSo_22_7 = true := by decide +kernel
def b_M_saysSo_79_3 : List Ins := [(.iconst (0), 0, 0, 0), (.istore 5, 0, 0, 0), (.iinc 6 (1), 0, 0, 0)]
theorem k_M_saysSo_79_3 : bok m_M_saysSo 79 b_M_saysSo_79_3 = true := by decide +kernel
def b_M_saysSo_40_18 : List Ins := [(.aload_n 0, 0, 0, 0), (.aload_n 0, 0, 0, 0), (.getfield 9, 11, 0, 2), (.sipush (341), 0, 0, 0), (.iload 6, 0, 0, 0), (.iadd, 0, 0, 0), (.iaload, 0, 0, 0), (.aload_n 0, 0, 0, 0), (.getfield 9, 11, 0, 2), (.sipush (341), 0, 0, 0), (.iload 6, 0, 0, 0), (.iadd, 0, 0, 0), (.iconst (1), 0, 0, 0), (.iadd, 0, 0, 0), (.iaload, 0, 0, 0), (.iload_n 2, 0, 0, 0), (.iload_n 3, 0, 0, 0), (.iload 4, 0, 0, 0)]
theorem k_M_saysSo_40_18 : bok m_M_saysSo 40 b_M_saysSo_40_18 = true := by decide +kernel
def b_M_saysSo_75_1 : List Ins := [(.iconst (1), 0, 0, 0)]
theorem k_M_saysSo_75_1 : bok m_M_saysSo 75 b_M_saysSo_75_1 = true := by decide +kernel
def b_M_saysSo_80_2 : List Ins := [(.istore 5, 0, 0, 0), (.iinc 6 (1), 0, 0, 0)]
theorem k_M_saysSo_80_2 : bok m_M_saysSo 80 b_M_saysSo_80_2 = true := by decide +kernel
theorem d_M_saysSo_14 : decode m_M_saysSo.2.1 14 = .ok (.if_icmp .ge (74), 3) := by decide +kernel
theorem d_M_saysSo_90 : decode m_M_saysSo.2.1 90 = .ok (.ireturn, 1) := by decide +kernel
theorem d_M_saysSo_19 : decode m_M_saysSo.2.1 19 = .ok (.ifCond .ne (69), 3) := by decide +kernel
theorem d_M_saysSo_34 : decode m_M_saysSo.2.1 34 = .ok (.invokestatic 168, 3) := by decide +kernel
theorem d_M_saysSo_37 : decode m_M_saysSo.2.1 37 = .ok (.ifCond .eq (42), 3) := by decide +kernel
theorem d_M_saysSo_85 : decode m_M_saysSo.2.1 85 = .ok (.goto (-79), 3) := by decide +kernel
theorem d_M_saysSo_69 : decode m_M_saysSo.2.1 69 = .ok (.invokevirtual 171, 3) := by decide +kernel
theorem d_M_saysSo_72 : decode m_M_saysSo.2.1 72 = .ok (.ifCond .eq (7), 3) := by decide +kernel
theorem d_M_saysSo_76 : decode m_M_saysSo.2.1 76 = .ok (.goto (4), 3) := by decide +kernel
def lp_M_saysSo_6 (x1 : Int32) (x2 : Int32) (x3 : Int32) (x4 : Int32)   : Nat → hs → Int32 → Int32 → Option (Int32 × hs)
  | 0, _, _, _ => none
  | n + 1, S, x5, x6 => (if (gI S 192 4) ≤ x6 then ck (isB x5) (some (x5, S)) else (if x5 = 0 then ck (inb ((350 : Int32) + x6) 358) (bd (f_M_isUnder  S x1 (gI S 192 (((350 : Int32) + x6)).toNatClampNeg)) fun r6 S7 => (if r6 = 0 then lp_M_saysSo_6 x1 x2 x3 x4 n S7 (0 : Int32) (x6 + (1 : Int32)) else ck (inb ((341 : Int32) + x6) 358) (ck (inb (((341 : Int32) + x6) + (1 : Int32)) 358) (bd (f_M_holds  S7 (gI S7 192 (((341 : Int32) + x6)).toNatClampNeg) (gI S7 192 ((((341 : Int32) + x6) + (1 : Int32))).toNatClampNeg) x2 x3 x4) fun r12 S13 => (if r12 = 0 then lp_M_saysSo_6 x1 x2 x3 x4 n S13 (0 : Int32) (x6 + (1 : Int32)) else lp_M_saysSo_6 x1 x2 x3 x4 n S13 (1 : Int32) (x6 + (1 : Int32))))))) else ck (isB x5) (some (x5, S))))
def f_M_saysSo  (S : hs) (x1 : Int32) (x2 : Int32) (x3 : Int32) (x4 : Int32) : Option (Int32 × hs) := lp_M_saysSo_6 x1 x2 x3 x4 1000 S (0 : Int32) (0 : Int32)
theorem lo_M_saysSo_6 (w : Wd) (d : Nat) (c : cx) {n0 z0 : Nat} {z : Int32 × hs}   (x1 : Int32) (x2 : Int32) (x3 : Int32) (x4 : Int32)    :
    ∀ (n : Nat) (S : hs) (x5 : Int32) (x6 : Int32), lp_M_saysSo_6 x1 x2 x3 x4 n S x5 x6 = some z → J w (d + 5) m_M_saysSo (n0, z0, some (.int z.1), mk c z.2) 6 [some (.ref 191), some (.int x1), some (.int x2), some (.int x3), some (.int x4), some (.int x5), some (.int x6)] [] (mk c S) := by
  intro n
  induction n with
  | zero => intro S x5 x6 H; cases H
  | succ n ih =>
    intro S x5 x6 H
    rw [lp_M_saysSo_6] at H
    refine J.run b_M_saysSo_6_5 k_M_saysSo_6_5 rfl (And.intro (okO_st (S := S) rfl) (And.intro (okA_st (S := S) (n := 358) rfl rfl) (show J w (d + 5) m_M_saysSo (n0, z0, some (.int z.1), mk c z.2) 14 [some (.ref 191), some (.int x1), some (.int x2), some (.int x3), some (.int x4), some (.int x5), some (.int x6)] [.int (gI S 192 4), .int x6] (mk c S) from ?_)))
    refine J.cge (tgt := 88) d_M_saysSo_14 rfl (fun q1 => ?_) (fun q1 => ?_)
    · have H := ite_t H q1
      refine J.run b_M_saysSo_88_1 k_M_saysSo_88_1 rfl (show J w (d + 5) m_M_saysSo (n0, z0, some (.int z.1), mk c z.2) 90 [some (.ref 191), some (.int x1), some (.int x2), some (.int x3), some (.int x4), some (.int x5), some (.int x6)] [.int x5] (mk c S) from ?_)
      obtain ⟨g2, H⟩ := ck_e H
      obtain rfl := some_e H
      exact J.nret d_M_saysSo_90 rfl (isB_n g2) rfl
    · have H := ite_f H q1
      refine J.run b_M_saysSo_17_1 k_M_saysSo_17_1 rfl (show J w (d + 5) m_M_saysSo (n0, z0, some (.int z.1), mk c z.2) 19 [some (.ref 191), some (.int x1), some (.int x2), some (.int x3), some (.int x4), some (.int x5), some (.int x6)] [.int x5] (mk c S) from ?_)
      refine J.zne (tgt := 88) d_M_saysSo_19 rfl (fun q3 => ?_) (fun q3 => ?_)
      · have H := ite_f H q3
        refine J.run b_M_saysSo_88_1 k_M_saysSo_88_1 rfl (show J w (d + 5) m_M_saysSo (n0, z0, some (.int z.1), mk c z.2) 90 [some (.ref 191), some (.int x1), some (.int x2), some (.int x3), some (.int x4), some (.int x5), some (.int x6)] [.int x5] (mk c S) from ?_)
        obtain ⟨g4, H⟩ := ck_e H
        obtain rfl := some_e H
        exact J.nret d_M_saysSo_90 rfl (isB_n g4) rfl
      · have H := ite_t H q3
        obtain ⟨g5, H⟩ := ck_e H
        refine J.run b_M_saysSo_22_7 k_M_saysSo_22_7 rfl (And.intro (okO_st (S := S) rfl) (And.intro (okA_st (S := S) (n := 358) rfl g5) (show J w (d + 5) m_M_saysSo (n0, z0, some (.int z.1), mk c z.2) 34 [some (.ref 191), some (.int x1), some (.int x2), some (.int x3), some (.int x4), some (.int x5), some (.int x6)] [.int (gI S 192 (((350 : Int32) + x6)).toNatClampNeg), .int x1] (mk c S) from ?_)))
        obtain ⟨r6, S7, h8, H⟩ := bd_e H
        refine J.callS (y := m_M_isUnder) (av := [.int x1, .int (gI S 192 (((350 : Int32) + x6)).toNatClampNeg)]) (rest := []) l_M_168 d_M_saysSo_34 (c_M_isUnder w (d + 2) c  S x1 (gI S 192 (((350 : Int32) + x6)).toNatClampNeg) h8) rfl (Nat.le_of_ble_eq_true rfl) ⟨Nat.le_refl _, Nat.le_refl _⟩ (show J w (d + 5) m_M_saysSo (n0, z0, some (.int z.1), mk c z.2) 37 [some (.ref 191), some (.int x1), some (.int x2), some (.int x3), some (.int x4), some (.int x5), some (.int x6)] [.int r6] (mk c S7) from ?_)
        refine J.zeq (tgt := 79) d_M_saysSo_37 rfl (fun q9 => ?_) (fun q9 => ?_)
        · have H := ite_t H q9
          refine J.run b_M_saysSo_79_3 k_M_saysSo_79_3 rfl (show J w (d + 5) m_M_saysSo (n0, z0, some (.int z.1), mk c z.2) 85 [some (.ref 191), some (.int x1), some (.int x2), some (.int x3), some (.int x4), some (.int (0 : Int32)), some (.int (x6 + (1 : Int32)))] [] (mk c S7) from ?_)
          refine J.goto (tgt := 6) d_M_saysSo_85 rfl ?_
          refine J.mask [true, true, true, true, true, true, true] ?_
          exact ih S7 (0 : Int32) (x6 + (1 : Int32)) H
        · have H := ite_f H q9
          obtain ⟨g10, H⟩ := ck_e H
          obtain ⟨g11, H⟩ := ck_e H
          refine J.run b_M_saysSo_40_18 k_M_saysSo_40_18 rfl (And.intro (okO_st (S := S7) rfl) (And.intro (okA_st (S := S7) (n := 358) rfl g10) (And.intro (okO_st (S := S7) rfl) (And.intro (okA_st (S := S7) (n := 358) rfl g11) (show J w (d + 5) m_M_saysSo (n0, z0, some (.int z.1), mk c z.2) 69 [some (.ref 191), some (.int x1), some (.int x2), some (.int x3), some (.int x4), some (.int x5), some (.int x6)] [.int x4, .int x3, .int x2, .int (gI S7 192 ((((341 : Int32) + x6) + (1 : Int32))).toNatClampNeg), .int (gI S7 192 (((341 : Int32) + x6)).toNatClampNeg), .ref 191] (mk c S7) from ?_)))))
          obtain ⟨r12, S13, h14, H⟩ := bd_e H
          refine J.callV (y := m_M_holds) (av := [.int (gI S7 192 (((341 : Int32) + x6)).toNatClampNeg), .int (gI S7 192 ((((341 : Int32) + x6) + (1 : Int32))).toNatClampNeg), .int x2, .int x3, .int x4]) (rest := []) (q := 191) l_M_171 d_M_saysSo_69 (isC_st rfl rfl) (c_M_holds w (d + 0) c  S7 (gI S7 192 (((341 : Int32) + x6)).toNatClampNeg) (gI S7 192 ((((341 : Int32) + x6) + (1 : Int32))).toNatClampNeg) x2 x3 x4 h14) rfl (Nat.le_of_ble_eq_true rfl) ⟨Nat.le_refl _, Nat.le_refl _⟩ (show J w (d + 5) m_M_saysSo (n0, z0, some (.int z.1), mk c z.2) 72 [some (.ref 191), some (.int x1), some (.int x2), some (.int x3), some (.int x4), some (.int x5), some (.int x6)] [.int r12] (mk c S13) from ?_)
          refine J.zeq (tgt := 79) d_M_saysSo_72 rfl (fun q15 => ?_) (fun q15 => ?_)
          · have H := ite_t H q15
            refine J.run b_M_saysSo_79_3 k_M_saysSo_79_3 rfl (show J w (d + 5) m_M_saysSo (n0, z0, some (.int z.1), mk c z.2) 85 [some (.ref 191), some (.int x1), some (.int x2), some (.int x3), some (.int x4), some (.int (0 : Int32)), some (.int (x6 + (1 : Int32)))] [] (mk c S13) from ?_)
            refine J.goto (tgt := 6) d_M_saysSo_85 rfl ?_
            refine J.mask [true, true, true, true, true, true, true] ?_
            exact ih S13 (0 : Int32) (x6 + (1 : Int32)) H
          · have H := ite_f H q15
            refine J.run b_M_saysSo_75_1 k_M_saysSo_75_1 rfl (show J w (d + 5) m_M_saysSo (n0, z0, some (.int z.1), mk c z.2) 76 [some (.ref 191), some (.int x1), some (.int x2), some (.int x3), some (.int x4), some (.int x5), some (.int x6)] [.int (1 : Int32)] (mk c S13) from ?_)
            refine J.goto (tgt := 80) d_M_saysSo_76 rfl ?_
            refine J.run b_M_saysSo_80_2 k_M_saysSo_80_2 rfl (show J w (d + 5) m_M_saysSo (n0, z0, some (.int z.1), mk c z.2) 85 [some (.ref 191), some (.int x1), some (.int x2), some (.int x3), some (.int x4), some (.int (1 : Int32)), some (.int (x6 + (1 : Int32)))] [] (mk c S13) from ?_)
            refine J.goto (tgt := 6) d_M_saysSo_85 rfl ?_
            refine J.mask [true, true, true, true, true, true, true] ?_
            exact ih S13 (1 : Int32) (x6 + (1 : Int32)) H
theorem c_M_saysSo (w : Wd) (d : Nat) (c : cx)   (S : hs) (x1 : Int32) (x2 : Int32) (x3 : Int32) (x4 : Int32)  {z : Int32 × hs} (H : f_M_saysSo S x1 x2 x3 x4 = some z) : Cl w (d + 5) m_M_saysSo [.ref 191, .int x1, .int x2, .int x3, .int x4] (mk c S) (some (.int z.1)) (mk c z.2) := by
  refine Cl.of (Nat.le_refl _) (Nat.le_refl _) (by decide +kernel) (Nat.le_of_ble_eq_true rfl) ?_
  unfold f_M_saysSo at H
  generalize hN (mk c S) = n0
  generalize hZ (mk c S) = z0
  show J w (d + 5) m_M_saysSo (n0, z0, some (.int z.1), mk c z.2) 0 [some (.ref 191), some (.int x1), some (.int x2), some (.int x3), some (.int x4), none, none] [] (mk c S)
  refine J.run b_M_saysSo_0_4 k_M_saysSo_0_4 rfl (show J w (d + 5) m_M_saysSo (n0, z0, some (.int z.1), mk c z.2) 6 [some (.ref 191), some (.int x1), some (.int x2), some (.int x3), some (.int x4), some (.int (0 : Int32)), some (.int (0 : Int32))] [] (mk c S) from ?_)
  refine J.mask [true, true, true, true, true, true, true] ?_
  refine lo_M_saysSo_6 w d c x1 x2 x3 x4  1000 S (0 : Int32) (0 : Int32) H
def b_M_hasBit_0_7 : List Ins := [(.lload_n 0, 0, 0, 0), (.iload_n 2, 0, 0, 0), (.lshr, 0, 0, 0), (.lconst 1, 0, 0, 0), (.land, 0, 0, 0), (.lconst 1, 0, 0, 0), (.lcmp, 0, 0, 0)]
theorem k_M_hasBit_0_7 : bok m_M_hasBit 0 b_M_hasBit_0_7 = true := by decide +kernel
def b_M_hasBit_14_1 : List Ins := [(.iconst (0), 0, 0, 0)]
theorem k_M_hasBit_14_1 : bok m_M_hasBit 14 b_M_hasBit_14_1 = true := by decide +kernel
def b_M_hasBit_10_1 : List Ins := [(.iconst (1), 0, 0, 0)]
theorem k_M_hasBit_10_1 : bok m_M_hasBit 10 b_M_hasBit_10_1 = true := by decide +kernel
theorem d_M_hasBit_7 : decode m_M_hasBit.2.1 7 = .ok (.ifCond .ne (7), 3) := by decide +kernel
theorem d_M_hasBit_15 : decode m_M_hasBit.2.1 15 = .ok (.ireturn, 1) := by decide +kernel
theorem d_M_hasBit_11 : decode m_M_hasBit.2.1 11 = .ok (.goto (4), 3) := by decide +kernel
def f_M_hasBit  (S : hs) (x0 : Int64) (x2 : Int32) : Option (Int32 × hs) := (if (lg_cmp ((x0 >>> (x2.toInt64 &&& 63)) &&& (1 : Int64)) (1 : Int64)) = 0 then some ((1 : Int32), S) else some ((0 : Int32), S))
theorem c_M_hasBit (w : Wd) (d : Nat) (c : cx)   (S : hs) (x0 : Int64) (x2 : Int32)  {z : Int32 × hs} (H : f_M_hasBit S x0 x2 = some z) : Cl w (d + 1) m_M_hasBit [.long x0, .int x2] (mk c S) (some (.int z.1)) (mk c z.2) := by
  refine Cl.of (Nat.le_refl _) (Nat.le_refl _) (by decide +kernel) (Nat.le_of_ble_eq_true rfl) ?_
  unfold f_M_hasBit at H
  generalize hN (mk c S) = n0
  generalize hZ (mk c S) = z0
  show J w (d + 1) m_M_hasBit (n0, z0, some (.int z.1), mk c z.2) 0 [some (.long x0), none, some (.int x2)] [] (mk c S)
  refine J.run b_M_hasBit_0_7 k_M_hasBit_0_7 rfl (show J w (d + 1) m_M_hasBit (n0, z0, some (.int z.1), mk c z.2) 7 [some (.long x0), none, some (.int x2)] [.int (lg_cmp ((x0 >>> (x2.toInt64 &&& 63)) &&& (1 : Int64)) (1 : Int64))] (mk c S) from ?_)
  refine J.zne (tgt := 14) d_M_hasBit_7 rfl (fun q1 => ?_) (fun q1 => ?_)
  · have H := ite_f H q1
    refine J.run b_M_hasBit_14_1 k_M_hasBit_14_1 rfl (show J w (d + 1) m_M_hasBit (n0, z0, some (.int z.1), mk c z.2) 15 [some (.long x0), none, some (.int x2)] [.int (0 : Int32)] (mk c S) from ?_)
    obtain rfl := some_e H
    exact J.nret d_M_hasBit_15 rfl rfl rfl
  · have H := ite_t H q1
    refine J.run b_M_hasBit_10_1 k_M_hasBit_10_1 rfl (show J w (d + 1) m_M_hasBit (n0, z0, some (.int z.1), mk c z.2) 11 [some (.long x0), none, some (.int x2)] [.int (1 : Int32)] (mk c S) from ?_)
    refine J.goto (tgt := 15) d_M_hasBit_11 rfl ?_
    obtain rfl := some_e H
    exact J.nret d_M_hasBit_15 rfl rfl rfl
def b_M_mayGo_0_3 : List Ins := [(.aload_n 0, 0, 0, 0), (.iload_n 1, 0, 0, 0), (.iload_n 2, 0, 0, 0)]
theorem k_M_mayGo_0_3 : bok m_M_mayGo 0 b_M_mayGo_0_3 = true := by decide +kernel
def b_M_mayGo_6_2 : List Ins := [(.istore 4, 0, 0, 0), (.iload 4, 0, 0, 0)]
theorem k_M_mayGo_6_2 : bok m_M_mayGo 6 b_M_mayGo_6_2 = true := by decide +kernel
def b_M_mayGo_41_1 : List Ins := [(.iconst (0), 0, 0, 0)]
theorem k_M_mayGo_41_1 : bok m_M_mayGo 41 b_M_mayGo_41_1 = true := by decide +kernel
def b_M_mayGo_13_2 : List Ins := [(.aload_n 0, 0, 0, 0), (.iload_n 1, 0, 0, 0)]
theorem k_M_mayGo_13_2 : bok m_M_mayGo 13 b_M_mayGo_13_2 = true := by decide +kernel
def b_M_mayGo_18_1 : List Ins := [(.iload_n 3, 0, 0, 0)]
theorem k_M_mayGo_18_1 : bok m_M_mayGo 18 b_M_mayGo_18_1 = true := by decide +kernel
def b_M_mayGo_22_2 : List Ins := [(.aload_n 0, 0, 0, 0), (.iload_n 2, 0, 0, 0)]
theorem k_M_mayGo_22_2 : bok m_M_mayGo 22 b_M_mayGo_22_2 = true := by decide +kernel
def b_M_mayGo_27_1 : List Ins := [(.iload_n 3, 0, 0, 0)]
theorem k_M_mayGo_27_1 : bok m_M_mayGo 27 b_M_mayGo_27_1 = true := by decide +kernel
def b_M_mayGo_31_2 : List Ins := [(.iload 4, 0, 0, 0), (.iconst (3), 0, 0, 0)]
theorem k_M_mayGo_31_2 : bok m_M_mayGo 31 b_M_mayGo_31_2 = true := by decide +kernel
def b_M_mayGo_43_2 : List Ins := [(.aload_n 0, 0, 0, 0), (.getfield 16, 11, 3, 0)]
theorem k_M_mayGo_43_2 : bok m_M_mayGo 43 b_M_mayGo_43_2 = true := by decide +kernel
def b_M_mayGo_61_4 : List Ins := [(.aload_n 0, 0, 0, 0), (.getfield 9, 11, 0, 2), (.iconst (4), 0, 0, 0), (.iaload, 0, 0, 0)]
theorem k_M_mayGo_61_4 : bok m_M_mayGo 61 b_M_mayGo_61_4 = true := by decide +kernel
def b_M_mayGo_84_5 : List Ins := [(.aload_n 0, 0, 0, 0), (.iload 4, 0, 0, 0), (.iload_n 1, 0, 0, 0), (.iload_n 2, 0, 0, 0), (.iload_n 3, 0, 0, 0)]
theorem k_M_mayGo_84_5 : bok m_M_mayGo 84 b_M_mayGo_84_5 = true := by decide +kernel
def b_M_mayGo_70_2 : List Ins := [(.iload 4, 0, 0, 0), (.iconst (3), 0, 0, 0)]
theorem k_M_mayGo_70_2 : bok m_M_mayGo 70 b_M_mayGo_70_2 = true := by decide +kernel
def b_M_mayGo_80_1 : List Ins := [(.iconst (0), 0, 0, 0)]
theorem k_M_mayGo_80_1 : bok m_M_mayGo 80 b_M_mayGo_80_1 = true := by decide +kernel
def b_M_mayGo_76_1 : List Ins := [(.iconst (1), 0, 0, 0)]
theorem k_M_mayGo_76_1 : bok m_M_mayGo 76 b_M_mayGo_76_1 = true := by decide +kernel
def b_M_mayGo_50_4 : List Ins := [(.aload_n 0, 0, 0, 0), (.getfield 16, 11, 3, 0), (.i2l, 0, 0, 0), (.iload 4, 0, 0, 0)]
theorem k_M_mayGo_50_4 : bok m_M_mayGo 50 b_M_mayGo_50_4 = true := by decide +kernel
def b_M_mayGo_37_1 : List Ins := [(.iload_n 3, 0, 0, 0)]
theorem k_M_mayGo_37_1 : bok m_M_mayGo 37 b_M_mayGo_37_1 = true := by decide +kernel
theorem d_M_mayGo_3 : decode m_M_mayGo.2.1 3 = .ok (.invokevirtual 154, 3) := by decide +kernel
theorem d_M_mayGo_10 : decode m_M_mayGo.2.1 10 = .ok (.ifCond .eq (31), 3) := by decide +kernel
theorem d_M_mayGo_42 : decode m_M_mayGo.2.1 42 = .ok (.ireturn, 1) := by decide +kernel
theorem d_M_mayGo_15 : decode m_M_mayGo.2.1 15 = .ok (.invokevirtual 157, 3) := by decide +kernel
theorem d_M_mayGo_19 : decode m_M_mayGo.2.1 19 = .ok (.if_icmp .lt (22), 3) := by decide +kernel
theorem d_M_mayGo_24 : decode m_M_mayGo.2.1 24 = .ok (.invokevirtual 157, 3) := by decide +kernel
theorem d_M_mayGo_28 : decode m_M_mayGo.2.1 28 = .ok (.if_icmp .lt (13), 3) := by decide +kernel
theorem d_M_mayGo_34 : decode m_M_mayGo.2.1 34 = .ok (.if_icmp .ne (9), 3) := by decide +kernel
theorem d_M_mayGo_47 : decode m_M_mayGo.2.1 47 = .ok (.ifCond .lt (14), 3) := by decide +kernel
theorem d_M_mayGo_67 : decode m_M_mayGo.2.1 67 = .ok (.ifCond .ne (17), 3) := by decide +kernel
theorem d_M_mayGo_90 : decode m_M_mayGo.2.1 90 = .ok (.invokevirtual 164, 3) := by decide +kernel
theorem d_M_mayGo_93 : decode m_M_mayGo.2.1 93 = .ok (.ireturn, 1) := by decide +kernel
theorem d_M_mayGo_73 : decode m_M_mayGo.2.1 73 = .ok (.if_icmp .gt (7), 3) := by decide +kernel
theorem d_M_mayGo_81 : decode m_M_mayGo.2.1 81 = .ok (.goto (12), 3) := by decide +kernel
theorem d_M_mayGo_77 : decode m_M_mayGo.2.1 77 = .ok (.goto (16), 3) := by decide +kernel
theorem d_M_mayGo_57 : decode m_M_mayGo.2.1 57 = .ok (.invokestatic 160, 3) := by decide +kernel
theorem d_M_mayGo_60 : decode m_M_mayGo.2.1 60 = .ok (.ireturn, 1) := by decide +kernel
theorem d_M_mayGo_38 : decode m_M_mayGo.2.1 38 = .ok (.ifCond .le (5), 3) := by decide +kernel
def f_M_mayGo  (S : hs) (x1 : Int32) (x2 : Int32) (x3 : Int32) : Option (Int32 × hs) := bd (f_M_kindOf  S x1 x2) fun r1 S2 => (if r1 = 0 then some ((0 : Int32), S2) else bd (f_M_broadOf  S2 x1) fun r5 S6 => (if r5 < x3 then some ((0 : Int32), S6) else bd (f_M_broadOf  S6 x2) fun r9 S10 => (if r9 < x3 then some ((0 : Int32), S10) else (if r1 = (3 : Int32) then (if x3 ≤ 0 then (if (gI S10 191 3) < 0 then (if (gI S10 192 4) = 0 then (if (3 : Int32) < r1 then some ((0 : Int32), S10) else some ((1 : Int32), S10)) else bd (f_M_saysSo  S10 r1 x1 x2 x3) fun r28 S29 => ck (isB r28) (some (r28, S29))) else bd (f_M_hasBit  S10 ((gI S10 191 3).toInt64) r1) fun r33 S34 => ck (isB r33) (some (r33, S34))) else some ((0 : Int32), S10)) else (if (gI S10 191 3) < 0 then (if (gI S10 192 4) = 0 then (if (3 : Int32) < r1 then some ((0 : Int32), S10) else some ((1 : Int32), S10)) else bd (f_M_saysSo  S10 r1 x1 x2 x3) fun r16 S17 => ck (isB r16) (some (r16, S17))) else bd (f_M_hasBit  S10 ((gI S10 191 3).toInt64) r1) fun r21 S22 => ck (isB r21) (some (r21, S22)))))))
theorem c_M_mayGo (w : Wd) (d : Nat) (c : cx)   (S : hs) (x1 : Int32) (x2 : Int32) (x3 : Int32)  {z : Int32 × hs} (H : f_M_mayGo S x1 x2 x3 = some z) : Cl w (d + 6) m_M_mayGo [.ref 191, .int x1, .int x2, .int x3] (mk c S) (some (.int z.1)) (mk c z.2) := by
  refine Cl.of (Nat.le_refl _) (Nat.le_refl _) (by decide +kernel) (Nat.le_of_ble_eq_true rfl) ?_
  unfold f_M_mayGo at H
  generalize hN (mk c S) = n0
  generalize hZ (mk c S) = z0
  show J w (d + 6) m_M_mayGo (n0, z0, some (.int z.1), mk c z.2) 0 [some (.ref 191), some (.int x1), some (.int x2), some (.int x3), none] [] (mk c S)
  refine J.run b_M_mayGo_0_3 k_M_mayGo_0_3 rfl (show J w (d + 6) m_M_mayGo (n0, z0, some (.int z.1), mk c z.2) 3 [some (.ref 191), some (.int x1), some (.int x2), some (.int x3), none] [.int x2, .int x1, .ref 191] (mk c S) from ?_)
  obtain ⟨r1, S2, h3, H⟩ := bd_e H
  refine J.callV (y := m_M_kindOf) (av := [.int x1, .int x2]) (rest := []) (q := 191) l_M_154 d_M_mayGo_3 (isC_st rfl rfl) (c_M_kindOf w (d + 2) c  S x1 x2 h3) rfl (Nat.le_of_ble_eq_true rfl) ⟨Nat.le_refl _, Nat.le_refl _⟩ (show J w (d + 6) m_M_mayGo (n0, z0, some (.int z.1), mk c z.2) 6 [some (.ref 191), some (.int x1), some (.int x2), some (.int x3), none] [.int r1] (mk c S2) from ?_)
  refine J.run b_M_mayGo_6_2 k_M_mayGo_6_2 rfl (show J w (d + 6) m_M_mayGo (n0, z0, some (.int z.1), mk c z.2) 10 [some (.ref 191), some (.int x1), some (.int x2), some (.int x3), some (.int r1)] [.int r1] (mk c S2) from ?_)
  refine J.zeq (tgt := 41) d_M_mayGo_10 rfl (fun q4 => ?_) (fun q4 => ?_)
  · have H := ite_t H q4
    refine J.run b_M_mayGo_41_1 k_M_mayGo_41_1 rfl (show J w (d + 6) m_M_mayGo (n0, z0, some (.int z.1), mk c z.2) 42 [some (.ref 191), some (.int x1), some (.int x2), some (.int x3), some (.int r1)] [.int (0 : Int32)] (mk c S2) from ?_)
    obtain rfl := some_e H
    exact J.nret d_M_mayGo_42 rfl rfl rfl
  · have H := ite_f H q4
    refine J.run b_M_mayGo_13_2 k_M_mayGo_13_2 rfl (show J w (d + 6) m_M_mayGo (n0, z0, some (.int z.1), mk c z.2) 15 [some (.ref 191), some (.int x1), some (.int x2), some (.int x3), some (.int r1)] [.int x1, .ref 191] (mk c S2) from ?_)
    obtain ⟨r5, S6, h7, H⟩ := bd_e H
    refine J.callV (y := m_M_broadOf) (av := [.int x1]) (rest := []) (q := 191) l_M_157 d_M_mayGo_15 (isC_st rfl rfl) (c_M_broadOf w (d + 3) c  S2 x1 h7) rfl (Nat.le_of_ble_eq_true rfl) ⟨Nat.le_refl _, Nat.le_refl _⟩ (show J w (d + 6) m_M_mayGo (n0, z0, some (.int z.1), mk c z.2) 18 [some (.ref 191), some (.int x1), some (.int x2), some (.int x3), some (.int r1)] [.int r5] (mk c S6) from ?_)
    refine J.run b_M_mayGo_18_1 k_M_mayGo_18_1 rfl (show J w (d + 6) m_M_mayGo (n0, z0, some (.int z.1), mk c z.2) 19 [some (.ref 191), some (.int x1), some (.int x2), some (.int x3), some (.int r1)] [.int x3, .int r5] (mk c S6) from ?_)
    refine J.clt (tgt := 41) d_M_mayGo_19 rfl (fun q8 => ?_) (fun q8 => ?_)
    · have H := ite_t H q8
      refine J.run b_M_mayGo_41_1 k_M_mayGo_41_1 rfl (show J w (d + 6) m_M_mayGo (n0, z0, some (.int z.1), mk c z.2) 42 [some (.ref 191), some (.int x1), some (.int x2), some (.int x3), some (.int r1)] [.int (0 : Int32)] (mk c S6) from ?_)
      obtain rfl := some_e H
      exact J.nret d_M_mayGo_42 rfl rfl rfl
    · have H := ite_f H q8
      refine J.run b_M_mayGo_22_2 k_M_mayGo_22_2 rfl (show J w (d + 6) m_M_mayGo (n0, z0, some (.int z.1), mk c z.2) 24 [some (.ref 191), some (.int x1), some (.int x2), some (.int x3), some (.int r1)] [.int x2, .ref 191] (mk c S6) from ?_)
      obtain ⟨r9, S10, h11, H⟩ := bd_e H
      refine J.callV (y := m_M_broadOf) (av := [.int x2]) (rest := []) (q := 191) l_M_157 d_M_mayGo_24 (isC_st rfl rfl) (c_M_broadOf w (d + 3) c  S6 x2 h11) rfl (Nat.le_of_ble_eq_true rfl) ⟨Nat.le_refl _, Nat.le_refl _⟩ (show J w (d + 6) m_M_mayGo (n0, z0, some (.int z.1), mk c z.2) 27 [some (.ref 191), some (.int x1), some (.int x2), some (.int x3), some (.int r1)] [.int r9] (mk c S10) from ?_)
      refine J.run b_M_mayGo_27_1 k_M_mayGo_27_1 rfl (show J w (d + 6) m_M_mayGo (n0, z0, some (.int z.1), mk c z.2) 28 [some (.ref 191), some (.int x1), some (.int x2), some (.int x3), some (.int r1)] [.int x3, .int r9] (mk c S10) from ?_)
      refine J.clt (tgt := 41) d_M_mayGo_28 rfl (fun q12 => ?_) (fun q12 => ?_)
      · have H := ite_t H q12
        refine J.run b_M_mayGo_41_1 k_M_mayGo_41_1 rfl (show J w (d + 6) m_M_mayGo (n0, z0, some (.int z.1), mk c z.2) 42 [some (.ref 191), some (.int x1), some (.int x2), some (.int x3), some (.int r1)] [.int (0 : Int32)] (mk c S10) from ?_)
        obtain rfl := some_e H
        exact J.nret d_M_mayGo_42 rfl rfl rfl
      · have H := ite_f H q12
        refine J.run b_M_mayGo_31_2 k_M_mayGo_31_2 rfl (show J w (d + 6) m_M_mayGo (n0, z0, some (.int z.1), mk c z.2) 34 [some (.ref 191), some (.int x1), some (.int x2), some (.int x3), some (.int r1)] [.int (3 : Int32), .int r1] (mk c S10) from ?_)
        refine J.cne (tgt := 43) d_M_mayGo_34 rfl (fun q13 => ?_) (fun q13 => ?_)
        · have H := ite_f H q13
          refine J.run b_M_mayGo_43_2 k_M_mayGo_43_2 rfl (And.intro (okO_st (S := S10) rfl) (show J w (d + 6) m_M_mayGo (n0, z0, some (.int z.1), mk c z.2) 47 [some (.ref 191), some (.int x1), some (.int x2), some (.int x3), some (.int r1)] [.int (gI S10 191 3)] (mk c S10) from ?_))
          refine J.zlt (tgt := 61) d_M_mayGo_47 rfl (fun q14 => ?_) (fun q14 => ?_)
          · have H := ite_t H q14
            refine J.run b_M_mayGo_61_4 k_M_mayGo_61_4 rfl (And.intro (okO_st (S := S10) rfl) (And.intro (okA_st (S := S10) (n := 358) rfl rfl) (show J w (d + 6) m_M_mayGo (n0, z0, some (.int z.1), mk c z.2) 67 [some (.ref 191), some (.int x1), some (.int x2), some (.int x3), some (.int r1)] [.int (gI S10 192 4)] (mk c S10) from ?_)))
            refine J.zne (tgt := 84) d_M_mayGo_67 rfl (fun q15 => ?_) (fun q15 => ?_)
            · have H := ite_f H q15
              refine J.run b_M_mayGo_84_5 k_M_mayGo_84_5 rfl (show J w (d + 6) m_M_mayGo (n0, z0, some (.int z.1), mk c z.2) 90 [some (.ref 191), some (.int x1), some (.int x2), some (.int x3), some (.int r1)] [.int x3, .int x2, .int x1, .int r1, .ref 191] (mk c S10) from ?_)
              obtain ⟨r16, S17, h18, H⟩ := bd_e H
              refine J.callV (y := m_M_saysSo) (av := [.int r1, .int x1, .int x2, .int x3]) (rest := []) (q := 191) l_M_164 d_M_mayGo_90 (isC_st rfl rfl) (c_M_saysSo w (d + 0) c  S10 r1 x1 x2 x3 h18) rfl (Nat.le_of_ble_eq_true rfl) ⟨Nat.le_refl _, Nat.le_refl _⟩ (show J w (d + 6) m_M_mayGo (n0, z0, some (.int z.1), mk c z.2) 93 [some (.ref 191), some (.int x1), some (.int x2), some (.int x3), some (.int r1)] [.int r16] (mk c S17) from ?_)
              obtain ⟨g19, H⟩ := ck_e H
              obtain rfl := some_e H
              exact J.nret d_M_mayGo_93 rfl (isB_n g19) rfl
            · have H := ite_t H q15
              refine J.run b_M_mayGo_70_2 k_M_mayGo_70_2 rfl (show J w (d + 6) m_M_mayGo (n0, z0, some (.int z.1), mk c z.2) 73 [some (.ref 191), some (.int x1), some (.int x2), some (.int x3), some (.int r1)] [.int (3 : Int32), .int r1] (mk c S10) from ?_)
              refine J.cgt (tgt := 80) d_M_mayGo_73 rfl (fun q20 => ?_) (fun q20 => ?_)
              · have H := ite_t H q20
                refine J.run b_M_mayGo_80_1 k_M_mayGo_80_1 rfl (show J w (d + 6) m_M_mayGo (n0, z0, some (.int z.1), mk c z.2) 81 [some (.ref 191), some (.int x1), some (.int x2), some (.int x3), some (.int r1)] [.int (0 : Int32)] (mk c S10) from ?_)
                refine J.goto (tgt := 93) d_M_mayGo_81 rfl ?_
                obtain rfl := some_e H
                exact J.nret d_M_mayGo_93 rfl rfl rfl
              · have H := ite_f H q20
                refine J.run b_M_mayGo_76_1 k_M_mayGo_76_1 rfl (show J w (d + 6) m_M_mayGo (n0, z0, some (.int z.1), mk c z.2) 77 [some (.ref 191), some (.int x1), some (.int x2), some (.int x3), some (.int r1)] [.int (1 : Int32)] (mk c S10) from ?_)
                refine J.goto (tgt := 93) d_M_mayGo_77 rfl ?_
                obtain rfl := some_e H
                exact J.nret d_M_mayGo_93 rfl rfl rfl
          · have H := ite_f H q14
            refine J.run b_M_mayGo_50_4 k_M_mayGo_50_4 rfl (And.intro (okO_st (S := S10) rfl) (show J w (d + 6) m_M_mayGo (n0, z0, some (.int z.1), mk c z.2) 57 [some (.ref 191), some (.int x1), some (.int x2), some (.int x3), some (.int r1)] [.int r1, .long ((gI S10 191 3).toInt64)] (mk c S10) from ?_))
            obtain ⟨r21, S22, h23, H⟩ := bd_e H
            refine J.callS (y := m_M_hasBit) (av := [.long ((gI S10 191 3).toInt64), .int r1]) (rest := []) l_M_160 d_M_mayGo_57 (c_M_hasBit w (d + 4) c  S10 ((gI S10 191 3).toInt64) r1 h23) rfl (Nat.le_of_ble_eq_true rfl) ⟨Nat.le_refl _, Nat.le_refl _⟩ (show J w (d + 6) m_M_mayGo (n0, z0, some (.int z.1), mk c z.2) 60 [some (.ref 191), some (.int x1), some (.int x2), some (.int x3), some (.int r1)] [.int r21] (mk c S22) from ?_)
            obtain ⟨g24, H⟩ := ck_e H
            obtain rfl := some_e H
            exact J.nret d_M_mayGo_60 rfl (isB_n g24) rfl
        · have H := ite_t H q13
          refine J.run b_M_mayGo_37_1 k_M_mayGo_37_1 rfl (show J w (d + 6) m_M_mayGo (n0, z0, some (.int z.1), mk c z.2) 38 [some (.ref 191), some (.int x1), some (.int x2), some (.int x3), some (.int r1)] [.int x3] (mk c S10) from ?_)
          refine J.zle (tgt := 43) d_M_mayGo_38 rfl (fun q25 => ?_) (fun q25 => ?_)
          · have H := ite_t H q25
            refine J.run b_M_mayGo_43_2 k_M_mayGo_43_2 rfl (And.intro (okO_st (S := S10) rfl) (show J w (d + 6) m_M_mayGo (n0, z0, some (.int z.1), mk c z.2) 47 [some (.ref 191), some (.int x1), some (.int x2), some (.int x3), some (.int r1)] [.int (gI S10 191 3)] (mk c S10) from ?_))
            refine J.zlt (tgt := 61) d_M_mayGo_47 rfl (fun q26 => ?_) (fun q26 => ?_)
            · have H := ite_t H q26
              refine J.run b_M_mayGo_61_4 k_M_mayGo_61_4 rfl (And.intro (okO_st (S := S10) rfl) (And.intro (okA_st (S := S10) (n := 358) rfl rfl) (show J w (d + 6) m_M_mayGo (n0, z0, some (.int z.1), mk c z.2) 67 [some (.ref 191), some (.int x1), some (.int x2), some (.int x3), some (.int r1)] [.int (gI S10 192 4)] (mk c S10) from ?_)))
              refine J.zne (tgt := 84) d_M_mayGo_67 rfl (fun q27 => ?_) (fun q27 => ?_)
              · have H := ite_f H q27
                refine J.run b_M_mayGo_84_5 k_M_mayGo_84_5 rfl (show J w (d + 6) m_M_mayGo (n0, z0, some (.int z.1), mk c z.2) 90 [some (.ref 191), some (.int x1), some (.int x2), some (.int x3), some (.int r1)] [.int x3, .int x2, .int x1, .int r1, .ref 191] (mk c S10) from ?_)
                obtain ⟨r28, S29, h30, H⟩ := bd_e H
                refine J.callV (y := m_M_saysSo) (av := [.int r1, .int x1, .int x2, .int x3]) (rest := []) (q := 191) l_M_164 d_M_mayGo_90 (isC_st rfl rfl) (c_M_saysSo w (d + 0) c  S10 r1 x1 x2 x3 h30) rfl (Nat.le_of_ble_eq_true rfl) ⟨Nat.le_refl _, Nat.le_refl _⟩ (show J w (d + 6) m_M_mayGo (n0, z0, some (.int z.1), mk c z.2) 93 [some (.ref 191), some (.int x1), some (.int x2), some (.int x3), some (.int r1)] [.int r28] (mk c S29) from ?_)
                obtain ⟨g31, H⟩ := ck_e H
                obtain rfl := some_e H
                exact J.nret d_M_mayGo_93 rfl (isB_n g31) rfl
              · have H := ite_t H q27
                refine J.run b_M_mayGo_70_2 k_M_mayGo_70_2 rfl (show J w (d + 6) m_M_mayGo (n0, z0, some (.int z.1), mk c z.2) 73 [some (.ref 191), some (.int x1), some (.int x2), some (.int x3), some (.int r1)] [.int (3 : Int32), .int r1] (mk c S10) from ?_)
                refine J.cgt (tgt := 80) d_M_mayGo_73 rfl (fun q32 => ?_) (fun q32 => ?_)
                · have H := ite_t H q32
                  refine J.run b_M_mayGo_80_1 k_M_mayGo_80_1 rfl (show J w (d + 6) m_M_mayGo (n0, z0, some (.int z.1), mk c z.2) 81 [some (.ref 191), some (.int x1), some (.int x2), some (.int x3), some (.int r1)] [.int (0 : Int32)] (mk c S10) from ?_)
                  refine J.goto (tgt := 93) d_M_mayGo_81 rfl ?_
                  obtain rfl := some_e H
                  exact J.nret d_M_mayGo_93 rfl rfl rfl
                · have H := ite_f H q32
                  refine J.run b_M_mayGo_76_1 k_M_mayGo_76_1 rfl (show J w (d + 6) m_M_mayGo (n0, z0, some (.int z.1), mk c z.2) 77 [some (.ref 191), some (.int x1), some (.int x2), some (.int x3), some (.int r1)] [.int (1 : Int32)] (mk c S10) from ?_)
                  refine J.goto (tgt := 93) d_M_mayGo_77 rfl ?_
                  obtain rfl := some_e H
                  exact J.nret d_M_mayGo_93 rfl rfl rfl
            · have H := ite_f H q26
              refine J.run b_M_mayGo_50_4 k_M_mayGo_50_4 rfl (And.intro (okO_st (S := S10) rfl) (show J w (d + 6) m_M_mayGo (n0, z0, some (.int z.1), mk c z.2) 57 [some (.ref 191), some (.int x1), some (.int x2), some (.int x3), some (.int r1)] [.int r1, .long ((gI S10 191 3).toInt64)] (mk c S10) from ?_))
              obtain ⟨r33, S34, h35, H⟩ := bd_e H
              refine J.callS (y := m_M_hasBit) (av := [.long ((gI S10 191 3).toInt64), .int r1]) (rest := []) l_M_160 d_M_mayGo_57 (c_M_hasBit w (d + 4) c  S10 ((gI S10 191 3).toInt64) r1 h35) rfl (Nat.le_of_ble_eq_true rfl) ⟨Nat.le_refl _, Nat.le_refl _⟩ (show J w (d + 6) m_M_mayGo (n0, z0, some (.int z.1), mk c z.2) 60 [some (.ref 191), some (.int x1), some (.int x2), some (.int x3), some (.int r1)] [.int r33] (mk c S34) from ?_)
              obtain ⟨g36, H⟩ := ck_e H
              obtain rfl := some_e H
              exact J.nret d_M_mayGo_60 rfl (isB_n g36) rfl
          · have H := ite_f H q25
            refine J.run b_M_mayGo_41_1 k_M_mayGo_41_1 rfl (show J w (d + 6) m_M_mayGo (n0, z0, some (.int z.1), mk c z.2) 42 [some (.ref 191), some (.int x1), some (.int x2), some (.int x3), some (.int r1)] [.int (0 : Int32)] (mk c S10) from ?_)
            obtain rfl := some_e H
            exact J.nret d_M_mayGo_42 rfl rfl rfl
def b_M_may_0_1 : List Ins := [(.iload_n 1, 0, 0, 0)]
theorem k_M_may_0_1 : bok m_M_may 0 b_M_may_0_1 = true := by decide +kernel
def b_M_may_21_1 : List Ins := [(.iconst (-1), 0, 0, 0)]
theorem k_M_may_21_1 : bok m_M_may 21 b_M_may_21_1 = true := by decide +kernel
def b_M_may_7_1 : List Ins := [(.iload_n 2, 0, 0, 0)]
theorem k_M_may_7_1 : bok m_M_may 7 b_M_may_7_1 = true := by decide +kernel
def b_M_may_14_1 : List Ins := [(.iload_n 3, 0, 0, 0)]
theorem k_M_may_14_1 : bok m_M_may 14 b_M_may_14_1 = true := by decide +kernel
def b_M_may_23_3 : List Ins := [(.aload_n 0, 0, 0, 0), (.iload_n 1, 0, 0, 0), (.iload_n 2, 0, 0, 0)]
theorem k_M_may_23_3 : bok m_M_may 23 b_M_may_23_3 = true := by decide +kernel
def b_M_may_37_4 : List Ins := [(.aload_n 0, 0, 0, 0), (.iload_n 1, 0, 0, 0), (.iload_n 2, 0, 0, 0), (.iload_n 3, 0, 0, 0)]
theorem k_M_may_37_4 : bok m_M_may 37 b_M_may_37_4 = true := by decide +kernel
def b_M_may_51_1 : List Ins := [(.iconst (0), 0, 0, 0)]
theorem k_M_may_51_1 : bok m_M_may 51 b_M_may_51_1 = true := by decide +kernel
def b_M_may_47_1 : List Ins := [(.iconst (1), 0, 0, 0)]
theorem k_M_may_47_1 : bok m_M_may 47 b_M_may_47_1 = true := by decide +kernel
def b_M_may_32_1 : List Ins := [(.bipush (-3), 0, 0, 0)]
theorem k_M_may_32_1 : bok m_M_may 32 b_M_may_32_1 = true := by decide +kernel
theorem d_M_may_1 : decode m_M_may.2.1 1 = .ok (.invokestatic 151, 3) := by decide +kernel
theorem d_M_may_4 : decode m_M_may.2.1 4 = .ok (.ifCond .eq (17), 3) := by decide +kernel
theorem d_M_may_22 : decode m_M_may.2.1 22 = .ok (.ireturn, 1) := by decide +kernel
theorem d_M_may_8 : decode m_M_may.2.1 8 = .ok (.invokestatic 151, 3) := by decide +kernel
theorem d_M_may_11 : decode m_M_may.2.1 11 = .ok (.ifCond .eq (10), 3) := by decide +kernel
theorem d_M_may_15 : decode m_M_may.2.1 15 = .ok (.invokestatic 175, 3) := by decide +kernel
theorem d_M_may_18 : decode m_M_may.2.1 18 = .ok (.ifCond .ne (5), 3) := by decide +kernel
theorem d_M_may_26 : decode m_M_may.2.1 26 = .ok (.invokevirtual 154, 3) := by decide +kernel
theorem d_M_may_29 : decode m_M_may.2.1 29 = .ok (.ifCond .ne (8), 3) := by decide +kernel
theorem d_M_may_41 : decode m_M_may.2.1 41 = .ok (.invokevirtual 178, 3) := by decide +kernel
theorem d_M_may_44 : decode m_M_may.2.1 44 = .ok (.ifCond .eq (7), 3) := by decide +kernel
theorem d_M_may_52 : decode m_M_may.2.1 52 = .ok (.ireturn, 1) := by decide +kernel
theorem d_M_may_48 : decode m_M_may.2.1 48 = .ok (.goto (4), 3) := by decide +kernel
theorem d_M_may_34 : decode m_M_may.2.1 34 = .ok (.goto (18), 3) := by decide +kernel
def f_M_may  (S : hs) (x1 : Int32) (x2 : Int32) (x3 : Int32) : Option (Int32 × hs) := bd (f_M_isIndex  S x1) fun r1 S2 => (if r1 = 0 then some ((-1 : Int32), S2) else bd (f_M_isIndex  S2 x2) fun r5 S6 => (if r5 = 0 then some ((-1 : Int32), S6) else bd (f_M_isWidth  S6 x3) fun r9 S10 => (if r9 = 0 then some ((-1 : Int32), S10) else bd (f_M_kindOf  S10 x1 x2) fun r13 S14 => (if r13 = 0 then some ((-3 : Int32), S14) else bd (f_M_mayGo  S14 x1 x2 x3) fun r17 S18 => (if r17 = 0 then some ((0 : Int32), S18) else some ((1 : Int32), S18))))))
theorem c_M_may (w : Wd) (d : Nat) (c : cx)   (S : hs) (x1 : Int32) (x2 : Int32) (x3 : Int32)  {z : Int32 × hs} (H : f_M_may S x1 x2 x3 = some z) : Cl w (d + 7) m_M_may [.ref 191, .int x1, .int x2, .int x3] (mk c S) (some (.int z.1)) (mk c z.2) := by
  refine Cl.of (Nat.le_refl _) (Nat.le_refl _) (by decide +kernel) (Nat.le_of_ble_eq_true rfl) ?_
  unfold f_M_may at H
  generalize hN (mk c S) = n0
  generalize hZ (mk c S) = z0
  show J w (d + 7) m_M_may (n0, z0, some (.int z.1), mk c z.2) 0 [some (.ref 191), some (.int x1), some (.int x2), some (.int x3)] [] (mk c S)
  refine J.run b_M_may_0_1 k_M_may_0_1 rfl (show J w (d + 7) m_M_may (n0, z0, some (.int z.1), mk c z.2) 1 [some (.ref 191), some (.int x1), some (.int x2), some (.int x3)] [.int x1] (mk c S) from ?_)
  obtain ⟨r1, S2, h3, H⟩ := bd_e H
  refine J.callS (y := m_M_isIndex) (av := [.int x1]) (rest := []) l_M_151 d_M_may_1 (c_M_isIndex w (d + 4) c  S x1 h3) rfl (Nat.le_of_ble_eq_true rfl) ⟨Nat.le_refl _, Nat.le_refl _⟩ (show J w (d + 7) m_M_may (n0, z0, some (.int z.1), mk c z.2) 4 [some (.ref 191), some (.int x1), some (.int x2), some (.int x3)] [.int r1] (mk c S2) from ?_)
  refine J.zeq (tgt := 21) d_M_may_4 rfl (fun q4 => ?_) (fun q4 => ?_)
  · have H := ite_t H q4
    refine J.run b_M_may_21_1 k_M_may_21_1 rfl (show J w (d + 7) m_M_may (n0, z0, some (.int z.1), mk c z.2) 22 [some (.ref 191), some (.int x1), some (.int x2), some (.int x3)] [.int (-1 : Int32)] (mk c S2) from ?_)
    obtain rfl := some_e H
    exact J.iret d_M_may_22 rfl rfl
  · have H := ite_f H q4
    refine J.run b_M_may_7_1 k_M_may_7_1 rfl (show J w (d + 7) m_M_may (n0, z0, some (.int z.1), mk c z.2) 8 [some (.ref 191), some (.int x1), some (.int x2), some (.int x3)] [.int x2] (mk c S2) from ?_)
    obtain ⟨r5, S6, h7, H⟩ := bd_e H
    refine J.callS (y := m_M_isIndex) (av := [.int x2]) (rest := []) l_M_151 d_M_may_8 (c_M_isIndex w (d + 4) c  S2 x2 h7) rfl (Nat.le_of_ble_eq_true rfl) ⟨Nat.le_refl _, Nat.le_refl _⟩ (show J w (d + 7) m_M_may (n0, z0, some (.int z.1), mk c z.2) 11 [some (.ref 191), some (.int x1), some (.int x2), some (.int x3)] [.int r5] (mk c S6) from ?_)
    refine J.zeq (tgt := 21) d_M_may_11 rfl (fun q8 => ?_) (fun q8 => ?_)
    · have H := ite_t H q8
      refine J.run b_M_may_21_1 k_M_may_21_1 rfl (show J w (d + 7) m_M_may (n0, z0, some (.int z.1), mk c z.2) 22 [some (.ref 191), some (.int x1), some (.int x2), some (.int x3)] [.int (-1 : Int32)] (mk c S6) from ?_)
      obtain rfl := some_e H
      exact J.iret d_M_may_22 rfl rfl
    · have H := ite_f H q8
      refine J.run b_M_may_14_1 k_M_may_14_1 rfl (show J w (d + 7) m_M_may (n0, z0, some (.int z.1), mk c z.2) 15 [some (.ref 191), some (.int x1), some (.int x2), some (.int x3)] [.int x3] (mk c S6) from ?_)
      obtain ⟨r9, S10, h11, H⟩ := bd_e H
      refine J.callS (y := m_M_isWidth) (av := [.int x3]) (rest := []) l_M_175 d_M_may_15 (c_M_isWidth w (d + 4) c  S6 x3 h11) rfl (Nat.le_of_ble_eq_true rfl) ⟨Nat.le_refl _, Nat.le_refl _⟩ (show J w (d + 7) m_M_may (n0, z0, some (.int z.1), mk c z.2) 18 [some (.ref 191), some (.int x1), some (.int x2), some (.int x3)] [.int r9] (mk c S10) from ?_)
      refine J.zne (tgt := 23) d_M_may_18 rfl (fun q12 => ?_) (fun q12 => ?_)
      · have H := ite_f H q12
        refine J.run b_M_may_23_3 k_M_may_23_3 rfl (show J w (d + 7) m_M_may (n0, z0, some (.int z.1), mk c z.2) 26 [some (.ref 191), some (.int x1), some (.int x2), some (.int x3)] [.int x2, .int x1, .ref 191] (mk c S10) from ?_)
        obtain ⟨r13, S14, h15, H⟩ := bd_e H
        refine J.callV (y := m_M_kindOf) (av := [.int x1, .int x2]) (rest := []) (q := 191) l_M_154 d_M_may_26 (isC_st rfl rfl) (c_M_kindOf w (d + 3) c  S10 x1 x2 h15) rfl (Nat.le_of_ble_eq_true rfl) ⟨Nat.le_refl _, Nat.le_refl _⟩ (show J w (d + 7) m_M_may (n0, z0, some (.int z.1), mk c z.2) 29 [some (.ref 191), some (.int x1), some (.int x2), some (.int x3)] [.int r13] (mk c S14) from ?_)
        refine J.zne (tgt := 37) d_M_may_29 rfl (fun q16 => ?_) (fun q16 => ?_)
        · have H := ite_f H q16
          refine J.run b_M_may_37_4 k_M_may_37_4 rfl (show J w (d + 7) m_M_may (n0, z0, some (.int z.1), mk c z.2) 41 [some (.ref 191), some (.int x1), some (.int x2), some (.int x3)] [.int x3, .int x2, .int x1, .ref 191] (mk c S14) from ?_)
          obtain ⟨r17, S18, h19, H⟩ := bd_e H
          refine J.callV (y := m_M_mayGo) (av := [.int x1, .int x2, .int x3]) (rest := []) (q := 191) l_M_178 d_M_may_41 (isC_st rfl rfl) (c_M_mayGo w (d + 0) c  S14 x1 x2 x3 h19) rfl (Nat.le_of_ble_eq_true rfl) ⟨Nat.le_refl _, Nat.le_refl _⟩ (show J w (d + 7) m_M_may (n0, z0, some (.int z.1), mk c z.2) 44 [some (.ref 191), some (.int x1), some (.int x2), some (.int x3)] [.int r17] (mk c S18) from ?_)
          refine J.zeq (tgt := 51) d_M_may_44 rfl (fun q20 => ?_) (fun q20 => ?_)
          · have H := ite_t H q20
            refine J.run b_M_may_51_1 k_M_may_51_1 rfl (show J w (d + 7) m_M_may (n0, z0, some (.int z.1), mk c z.2) 52 [some (.ref 191), some (.int x1), some (.int x2), some (.int x3)] [.int (0 : Int32)] (mk c S18) from ?_)
            obtain rfl := some_e H
            exact J.iret d_M_may_52 rfl rfl
          · have H := ite_f H q20
            refine J.run b_M_may_47_1 k_M_may_47_1 rfl (show J w (d + 7) m_M_may (n0, z0, some (.int z.1), mk c z.2) 48 [some (.ref 191), some (.int x1), some (.int x2), some (.int x3)] [.int (1 : Int32)] (mk c S18) from ?_)
            refine J.goto (tgt := 52) d_M_may_48 rfl ?_
            obtain rfl := some_e H
            exact J.iret d_M_may_52 rfl rfl
        · have H := ite_t H q16
          refine J.run b_M_may_32_1 k_M_may_32_1 rfl (show J w (d + 7) m_M_may (n0, z0, some (.int z.1), mk c z.2) 34 [some (.ref 191), some (.int x1), some (.int x2), some (.int x3)] [.int (-3 : Int32)] (mk c S14) from ?_)
          refine J.goto (tgt := 52) d_M_may_34 rfl ?_
          obtain rfl := some_e H
          exact J.iret d_M_may_52 rfl rfl
      · have H := ite_t H q12
        refine J.run b_M_may_21_1 k_M_may_21_1 rfl (show J w (d + 7) m_M_may (n0, z0, some (.int z.1), mk c z.2) 22 [some (.ref 191), some (.int x1), some (.int x2), some (.int x3)] [.int (-1 : Int32)] (mk c S10) from ?_)
        obtain rfl := some_e H
        exact J.iret d_M_may_22 rfl rfl
def b_M_feed_0_3 : List Ins := [(.iload_n 3, 0, 0, 0), (.iconst (1), 0, 0, 0), (.bipush (8), 0, 0, 0)]
theorem k_M_feed_0_3 : bok m_M_feed 0 b_M_feed_0_3 = true := by decide +kernel
def b_M_feed_12_5 : List Ins := [(.aload_n 0, 0, 0, 0), (.getfield 181, 11, 5, 0), (.iload_n 3, 0, 0, 0), (.iadd, 0, 0, 0), (.sipush (200), 0, 0, 0)]
theorem k_M_feed_12_5 : bok m_M_feed 12 b_M_feed_12_5 = true := by decide +kernel
def b_M_feed_27_2 : List Ins := [(.iconst (0), 0, 0, 0), (.istore 4, 0, 0, 0)]
theorem k_M_feed_27_2 : bok m_M_feed 27 b_M_feed_27_2 = true := by decide +kernel
def b_M_feed_30_2 : List Ins := [(.iload 4, 0, 0, 0), (.iload_n 3, 0, 0, 0)]
theorem k_M_feed_30_2 : bok m_M_feed 30 b_M_feed_30_2 = true := by decide +kernel
def b_M_feed_73_2 : List Ins := [(.aload_n 0, 0, 0, 0), (.getfield 181, 11, 5, 0)]
theorem k_M_feed_73_2 : bok m_M_feed 73 b_M_feed_73_2 = true := by decide +kernel
def b_M_feed_36_20 : List Ins := [(.aload_n 0, 0, 0, 0), (.getfield 20, 11, 4, 2), (.aload_n 0, 0, 0, 0), (.getfield 181, 11, 5, 0), (.lload_n 1, 0, 0, 0), (.bipush (8), 0, 0, 0), (.iload 4, 0, 0, 0), (.imul, 0, 0, 0), (.lshr, 0, 0, 0), (.ldc2_w 184, 0, 255, 0), (.land, 0, 0, 0), (.l2i, 0, 0, 0), (.iastore, 0, 0, 0), (.aload_n 0, 0, 0, 0), (.dup, 0, 0, 0), (.getfield 181, 11, 5, 0), (.iconst (1), 0, 0, 0), (.iadd, 0, 0, 0), (.putfield 181, 11, 5, 0), (.iinc 4 (1), 0, 0, 0)]
theorem k_M_feed_36_20 : bok m_M_feed 36 b_M_feed_36_20 = true := by decide +kernel
def b_M_feed_24_1 : List Ins := [(.bipush (-2), 0, 0, 0)]
theorem k_M_feed_24_1 : bok m_M_feed 24 b_M_feed_24_1 = true := by decide +kernel
def b_M_feed_10_1 : List Ins := [(.iconst (-1), 0, 0, 0)]
theorem k_M_feed_10_1 : bok m_M_feed 10 b_M_feed_10_1 = true := by decide +kernel
theorem d_M_feed_4 : decode m_M_feed.2.1 4 = .ok (.invokestatic 105, 3) := by decide +kernel
theorem d_M_feed_7 : decode m_M_feed.2.1 7 = .ok (.ifCond .ne (5), 3) := by decide +kernel
theorem d_M_feed_21 : decode m_M_feed.2.1 21 = .ok (.if_icmp .le (6), 3) := by decide +kernel
theorem d_M_feed_33 : decode m_M_feed.2.1 33 = .ok (.if_icmp .ge (40), 3) := by decide +kernel
theorem d_M_feed_77 : decode m_M_feed.2.1 77 = .ok (.ireturn, 1) := by decide +kernel
theorem d_M_feed_70 : decode m_M_feed.2.1 70 = .ok (.goto (-40), 3) := by decide +kernel
theorem d_M_feed_26 : decode m_M_feed.2.1 26 = .ok (.ireturn, 1) := by decide +kernel
theorem d_M_feed_11 : decode m_M_feed.2.1 11 = .ok (.ireturn, 1) := by decide +kernel
def lp_M_feed_30 (x1 : Int64) (x3 : Int32)   : Nat → hs → Int32 → Option (Int32 × hs)
  | 0, _, _ => none
  | n + 1, S, x4 => (if x3 ≤ x4 then some ((gI S 191 5), S) else ck (inb (gI S 191 5) 200) (lp_M_feed_30 x1 x3 n (uI (uI S 194 ((gI S 191 5)).toNatClampNeg (((x1 >>> (((8 : Int32) * x4).toInt64 &&& 63)) &&& (255 : Int64)).toInt32)) 191 5 ((gI (uI S 194 ((gI S 191 5)).toNatClampNeg (((x1 >>> (((8 : Int32) * x4).toInt64 &&& 63)) &&& (255 : Int64)).toInt32)) 191 5) + (1 : Int32))) (x4 + (1 : Int32))))
def f_M_feed  (S : hs) (x1 : Int64) (x3 : Int32) : Option (Int32 × hs) := bd (f_M_in  S x3 (1 : Int32) (8 : Int32)) fun r1 S2 => (if r1 = 0 then some ((-1 : Int32), S2) else (if ((gI S2 191 5) + x3) ≤ (200 : Int32) then lp_M_feed_30 x1 x3 1000 S2 (0 : Int32) else some ((-2 : Int32), S2)))
theorem lo_M_feed_30 (w : Wd) (d : Nat) (c : cx) {n0 z0 : Nat} {z : Int32 × hs}   (x1 : Int64) (x3 : Int32)    :
    ∀ (n : Nat) (S : hs) (x4 : Int32), lp_M_feed_30 x1 x3 n S x4 = some z → J w (d + 2) m_M_feed (n0, z0, some (.int z.1), mk c z.2) 30 [some (.ref 191), some (.long x1), none, some (.int x3), some (.int x4)] [] (mk c S) := by
  intro n
  induction n with
  | zero => intro S x4 H; cases H
  | succ n ih =>
    intro S x4 H
    rw [lp_M_feed_30] at H
    refine J.run b_M_feed_30_2 k_M_feed_30_2 rfl (show J w (d + 2) m_M_feed (n0, z0, some (.int z.1), mk c z.2) 33 [some (.ref 191), some (.long x1), none, some (.int x3), some (.int x4)] [.int x3, .int x4] (mk c S) from ?_)
    refine J.cge (tgt := 73) d_M_feed_33 rfl (fun q6 => ?_) (fun q6 => ?_)
    · have H := ite_t H q6
      refine J.run b_M_feed_73_2 k_M_feed_73_2 rfl (And.intro (okO_st (S := S) rfl) (show J w (d + 2) m_M_feed (n0, z0, some (.int z.1), mk c z.2) 77 [some (.ref 191), some (.long x1), none, some (.int x3), some (.int x4)] [.int (gI S 191 5)] (mk c S) from ?_))
      obtain rfl := some_e H
      exact J.iret d_M_feed_77 rfl rfl
    · have H := ite_f H q6
      obtain ⟨g7, H⟩ := ck_e H
      refine J.run b_M_feed_36_20 k_M_feed_36_20 rfl (And.intro (okO_st (S := S) rfl) (And.intro (okO_st (S := S) rfl) (And.intro (okB_st (S := S) (n := 200) rfl g7) (And.intro (okO_st (S := (uI S 194 ((gI S 191 5)).toNatClampNeg (((x1 >>> (((8 : Int32) * x4).toInt64 &&& 63)) &&& (255 : Int64)).toInt32))) rfl) (And.intro (okO_st (S := (uI S 194 ((gI S 191 5)).toNatClampNeg (((x1 >>> (((8 : Int32) * x4).toInt64 &&& 63)) &&& (255 : Int64)).toInt32))) rfl) (show J w (d + 2) m_M_feed (n0, z0, some (.int z.1), mk c z.2) 70 [some (.ref 191), some (.long x1), none, some (.int x3), some (.int (x4 + (1 : Int32)))] [] (mk c (uI (uI S 194 ((gI S 191 5)).toNatClampNeg (((x1 >>> (((8 : Int32) * x4).toInt64 &&& 63)) &&& (255 : Int64)).toInt32)) 191 5 ((gI (uI S 194 ((gI S 191 5)).toNatClampNeg (((x1 >>> (((8 : Int32) * x4).toInt64 &&& 63)) &&& (255 : Int64)).toInt32)) 191 5) + (1 : Int32)))) from ?_))))))
      refine J.goto (tgt := 30) d_M_feed_70 rfl ?_
      refine J.mask [true, true, false, true, true] ?_
      exact ih (uI (uI S 194 ((gI S 191 5)).toNatClampNeg (((x1 >>> (((8 : Int32) * x4).toInt64 &&& 63)) &&& (255 : Int64)).toInt32)) 191 5 ((gI (uI S 194 ((gI S 191 5)).toNatClampNeg (((x1 >>> (((8 : Int32) * x4).toInt64 &&& 63)) &&& (255 : Int64)).toInt32)) 191 5) + (1 : Int32))) (x4 + (1 : Int32)) H
theorem c_M_feed (w : Wd) (d : Nat) (c : cx)   (S : hs) (x1 : Int64) (x3 : Int32)  {z : Int32 × hs} (H : f_M_feed S x1 x3 = some z) : Cl w (d + 2) m_M_feed [.ref 191, .long x1, .int x3] (mk c S) (some (.int z.1)) (mk c z.2) := by
  refine Cl.of (Nat.le_refl _) (Nat.le_refl _) (by decide +kernel) (Nat.le_of_ble_eq_true rfl) ?_
  unfold f_M_feed at H
  generalize hN (mk c S) = n0
  generalize hZ (mk c S) = z0
  show J w (d + 2) m_M_feed (n0, z0, some (.int z.1), mk c z.2) 0 [some (.ref 191), some (.long x1), none, some (.int x3), none] [] (mk c S)
  refine J.run b_M_feed_0_3 k_M_feed_0_3 rfl (show J w (d + 2) m_M_feed (n0, z0, some (.int z.1), mk c z.2) 4 [some (.ref 191), some (.long x1), none, some (.int x3), none] [.int (8 : Int32), .int (1 : Int32), .int x3] (mk c S) from ?_)
  obtain ⟨r1, S2, h3, H⟩ := bd_e H
  refine J.callS (y := m_M_in) (av := [.int x3, .int (1 : Int32), .int (8 : Int32)]) (rest := []) l_M_105 d_M_feed_4 (c_M_in w (d + 0) c  S x3 (1 : Int32) (8 : Int32) h3) rfl (Nat.le_of_ble_eq_true rfl) ⟨Nat.le_refl _, Nat.le_refl _⟩ (show J w (d + 2) m_M_feed (n0, z0, some (.int z.1), mk c z.2) 7 [some (.ref 191), some (.long x1), none, some (.int x3), none] [.int r1] (mk c S2) from ?_)
  refine J.zne (tgt := 12) d_M_feed_7 rfl (fun q4 => ?_) (fun q4 => ?_)
  · have H := ite_f H q4
    refine J.run b_M_feed_12_5 k_M_feed_12_5 rfl (And.intro (okO_st (S := S2) rfl) (show J w (d + 2) m_M_feed (n0, z0, some (.int z.1), mk c z.2) 21 [some (.ref 191), some (.long x1), none, some (.int x3), none] [.int (200 : Int32), .int ((gI S2 191 5) + x3)] (mk c S2) from ?_))
    refine J.cle (tgt := 27) d_M_feed_21 rfl (fun q5 => ?_) (fun q5 => ?_)
    · have H := ite_t H q5
      refine J.run b_M_feed_27_2 k_M_feed_27_2 rfl (show J w (d + 2) m_M_feed (n0, z0, some (.int z.1), mk c z.2) 30 [some (.ref 191), some (.long x1), none, some (.int x3), some (.int (0 : Int32))] [] (mk c S2) from ?_)
      refine J.mask [true, true, false, true, true] ?_
      refine lo_M_feed_30 w d c x1 x3  1000 S2 (0 : Int32) H
    · have H := ite_f H q5
      refine J.run b_M_feed_24_1 k_M_feed_24_1 rfl (show J w (d + 2) m_M_feed (n0, z0, some (.int z.1), mk c z.2) 26 [some (.ref 191), some (.long x1), none, some (.int x3), none] [.int (-2 : Int32)] (mk c S2) from ?_)
      obtain rfl := some_e H
      exact J.iret d_M_feed_26 rfl rfl
  · have H := ite_t H q4
    refine J.run b_M_feed_10_1 k_M_feed_10_1 rfl (show J w (d + 2) m_M_feed (n0, z0, some (.int z.1), mk c z.2) 11 [some (.ref 191), some (.long x1), none, some (.int x3), none] [.int (-1 : Int32)] (mk c S2) from ?_)
    obtain rfl := some_e H
    exact J.iret d_M_feed_11 rfl rfl
def b_M_byteAt_0_3 : List Ins := [(.iload_n 1, 0, 0, 0), (.aload_n 0, 0, 0, 0), (.getfield 181, 11, 5, 0)]
theorem k_M_byteAt_0_3 : bok m_M_byteAt 0 b_M_byteAt_0_3 = true := by decide +kernel
def b_M_byteAt_17_1 : List Ins := [(.iconst (-1), 0, 0, 0)]
theorem k_M_byteAt_17_1 : bok m_M_byteAt 17 b_M_byteAt_17_1 = true := by decide +kernel
def b_M_byteAt_8_4 : List Ins := [(.aload_n 0, 0, 0, 0), (.getfield 20, 11, 4, 2), (.iload_n 1, 0, 0, 0), (.iaload, 0, 0, 0)]
theorem k_M_byteAt_8_4 : bok m_M_byteAt 8 b_M_byteAt_8_4 = true := by decide +kernel
theorem d_M_byteAt_5 : decode m_M_byteAt.2.1 5 = .ok (.if_icmp .ge (12), 3) := by decide +kernel
theorem d_M_byteAt_18 : decode m_M_byteAt.2.1 18 = .ok (.ireturn, 1) := by decide +kernel
theorem d_M_byteAt_14 : decode m_M_byteAt.2.1 14 = .ok (.goto (4), 3) := by decide +kernel
def f_M_byteAt  (S : hs) (x1 : Int32) : Option (Int32 × hs) := (if (gI S 191 5) ≤ x1 then some ((-1 : Int32), S) else ck (inb x1 200) (some ((gI S 194 (x1).toNatClampNeg), S)))
theorem c_M_byteAt (w : Wd) (d : Nat) (c : cx)   (S : hs) (x1 : Int32)  {z : Int32 × hs} (H : f_M_byteAt S x1 = some z) : Cl w (d + 1) m_M_byteAt [.ref 191, .int x1] (mk c S) (some (.int z.1)) (mk c z.2) := by
  refine Cl.of (Nat.le_refl _) (Nat.le_refl _) (by decide +kernel) (Nat.le_of_ble_eq_true rfl) ?_
  unfold f_M_byteAt at H
  generalize hN (mk c S) = n0
  generalize hZ (mk c S) = z0
  show J w (d + 1) m_M_byteAt (n0, z0, some (.int z.1), mk c z.2) 0 [some (.ref 191), some (.int x1)] [] (mk c S)
  refine J.run b_M_byteAt_0_3 k_M_byteAt_0_3 rfl (And.intro (okO_st (S := S) rfl) (show J w (d + 1) m_M_byteAt (n0, z0, some (.int z.1), mk c z.2) 5 [some (.ref 191), some (.int x1)] [.int (gI S 191 5), .int x1] (mk c S) from ?_))
  refine J.cge (tgt := 17) d_M_byteAt_5 rfl (fun q1 => ?_) (fun q1 => ?_)
  · have H := ite_t H q1
    refine J.run b_M_byteAt_17_1 k_M_byteAt_17_1 rfl (show J w (d + 1) m_M_byteAt (n0, z0, some (.int z.1), mk c z.2) 18 [some (.ref 191), some (.int x1)] [.int (-1 : Int32)] (mk c S) from ?_)
    obtain rfl := some_e H
    exact J.iret d_M_byteAt_18 rfl rfl
  · have H := ite_f H q1
    obtain ⟨g2, H⟩ := ck_e H
    refine J.run b_M_byteAt_8_4 k_M_byteAt_8_4 rfl (And.intro (okO_st (S := S) rfl) (And.intro (okA_st (S := S) (n := 200) rfl g2) (show J w (d + 1) m_M_byteAt (n0, z0, some (.int z.1), mk c z.2) 14 [some (.ref 191), some (.int x1)] [.int (gI S 194 (x1).toNatClampNeg)] (mk c S) from ?_)))
    refine J.goto (tgt := 18) d_M_byteAt_14 rfl ?_
    obtain rfl := some_e H
    exact J.iret d_M_byteAt_18 rfl rfl
def b_M_isLetter_0_3 : List Ins := [(.iload_n 0, 0, 0, 0), (.bipush (97), 0, 0, 0), (.bipush (122), 0, 0, 0)]
theorem k_M_isLetter_0_3 : bok m_M_isLetter 0 b_M_isLetter_0_3 = true := by decide +kernel
theorem d_M_isLetter_5 : decode m_M_isLetter.2.1 5 = .ok (.invokestatic 105, 3) := by decide +kernel
theorem d_M_isLetter_8 : decode m_M_isLetter.2.1 8 = .ok (.ireturn, 1) := by decide +kernel
def f_M_isLetter  (S : hs) (x0 : Int32) : Option (Int32 × hs) := bd (f_M_in  S x0 (97 : Int32) (122 : Int32)) fun r1 S2 => ck (isB r1) (some (r1, S2))
theorem c_M_isLetter (w : Wd) (d : Nat) (c : cx)   (S : hs) (x0 : Int32)  {z : Int32 × hs} (H : f_M_isLetter S x0 = some z) : Cl w (d + 2) m_M_isLetter [.int x0] (mk c S) (some (.int z.1)) (mk c z.2) := by
  refine Cl.of (Nat.le_refl _) (Nat.le_refl _) (by decide +kernel) (Nat.le_of_ble_eq_true rfl) ?_
  unfold f_M_isLetter at H
  generalize hN (mk c S) = n0
  generalize hZ (mk c S) = z0
  show J w (d + 2) m_M_isLetter (n0, z0, some (.int z.1), mk c z.2) 0 [some (.int x0)] [] (mk c S)
  refine J.run b_M_isLetter_0_3 k_M_isLetter_0_3 rfl (show J w (d + 2) m_M_isLetter (n0, z0, some (.int z.1), mk c z.2) 5 [some (.int x0)] [.int (122 : Int32), .int (97 : Int32), .int x0] (mk c S) from ?_)
  obtain ⟨r1, S2, h3, H⟩ := bd_e H
  refine J.callS (y := m_M_in) (av := [.int x0, .int (97 : Int32), .int (122 : Int32)]) (rest := []) l_M_105 d_M_isLetter_5 (c_M_in w (d + 0) c  S x0 (97 : Int32) (122 : Int32) h3) rfl (Nat.le_of_ble_eq_true rfl) ⟨Nat.le_refl _, Nat.le_refl _⟩ (show J w (d + 2) m_M_isLetter (n0, z0, some (.int z.1), mk c z.2) 8 [some (.int x0)] [.int r1] (mk c S2) from ?_)
  obtain ⟨g4, H⟩ := ck_e H
  obtain rfl := some_e H
  exact J.nret d_M_isLetter_8 rfl (isB_n g4) rfl
def b_M_isDigit_0_3 : List Ins := [(.iload_n 0, 0, 0, 0), (.bipush (48), 0, 0, 0), (.bipush (57), 0, 0, 0)]
theorem k_M_isDigit_0_3 : bok m_M_isDigit 0 b_M_isDigit_0_3 = true := by decide +kernel
theorem d_M_isDigit_5 : decode m_M_isDigit.2.1 5 = .ok (.invokestatic 105, 3) := by decide +kernel
theorem d_M_isDigit_8 : decode m_M_isDigit.2.1 8 = .ok (.ireturn, 1) := by decide +kernel
def f_M_isDigit  (S : hs) (x0 : Int32) : Option (Int32 × hs) := bd (f_M_in  S x0 (48 : Int32) (57 : Int32)) fun r1 S2 => ck (isB r1) (some (r1, S2))
theorem c_M_isDigit (w : Wd) (d : Nat) (c : cx)   (S : hs) (x0 : Int32)  {z : Int32 × hs} (H : f_M_isDigit S x0 = some z) : Cl w (d + 2) m_M_isDigit [.int x0] (mk c S) (some (.int z.1)) (mk c z.2) := by
  refine Cl.of (Nat.le_refl _) (Nat.le_refl _) (by decide +kernel) (Nat.le_of_ble_eq_true rfl) ?_
  unfold f_M_isDigit at H
  generalize hN (mk c S) = n0
  generalize hZ (mk c S) = z0
  show J w (d + 2) m_M_isDigit (n0, z0, some (.int z.1), mk c z.2) 0 [some (.int x0)] [] (mk c S)
  refine J.run b_M_isDigit_0_3 k_M_isDigit_0_3 rfl (show J w (d + 2) m_M_isDigit (n0, z0, some (.int z.1), mk c z.2) 5 [some (.int x0)] [.int (57 : Int32), .int (48 : Int32), .int x0] (mk c S) from ?_)
  obtain ⟨r1, S2, h3, H⟩ := bd_e H
  refine J.callS (y := m_M_in) (av := [.int x0, .int (48 : Int32), .int (57 : Int32)]) (rest := []) l_M_105 d_M_isDigit_5 (c_M_in w (d + 0) c  S x0 (48 : Int32) (57 : Int32) h3) rfl (Nat.le_of_ble_eq_true rfl) ⟨Nat.le_refl _, Nat.le_refl _⟩ (show J w (d + 2) m_M_isDigit (n0, z0, some (.int z.1), mk c z.2) 8 [some (.int x0)] [.int r1] (mk c S2) from ?_)
  obtain ⟨g4, H⟩ := ck_e H
  obtain rfl := some_e H
  exact J.nret d_M_isDigit_8 rfl (isB_n g4) rfl
