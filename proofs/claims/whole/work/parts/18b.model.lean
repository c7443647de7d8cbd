/-! Model -/
def b_M_walker_0_2 : List Ins := [(.aload_n 0, 0, 0, 0), (.iload_n 1, 0, 0, 0)]
theorem k_M_walker_0_2 : bok m_M_walker 0 b_M_walker_0_2 = true := by decide +kernel
def b_M_walker_24_1 : List Ins := [(.iconst (-1), 0, 0, 0)]
theorem k_M_walker_24_1 : bok m_M_walker 24 b_M_walker_24_1 = true := by decide +kernel
def b_M_walker_8_1 : List Ins := [(.iload_n 2, 0, 0, 0)]
theorem k_M_walker_8_1 : bok m_M_walker 8 b_M_walker_8_1 = true := by decide +kernel
def b_M_walker_15_2 : List Ins := [(.aload_n 0, 0, 0, 0), (.iload_n 1, 0, 0, 0)]
theorem k_M_walker_15_2 : bok m_M_walker 15 b_M_walker_15_2 = true := by decide +kernel
def b_M_walker_20_1 : List Ins := [(.iload_n 2, 0, 0, 0)]
theorem k_M_walker_20_1 : bok m_M_walker 20 b_M_walker_20_1 = true := by decide +kernel
def b_M_walker_26_7 : List Ins := [(.aload_n 0, 0, 0, 0), (.getfield 9, 11, 0, 2), (.iconst (3), 0, 0, 0), (.iaload, 0, 0, 0), (.istore_n 3, 0, 0, 0), (.iload_n 3, 0, 0, 0), (.iconst (4), 0, 0, 0)]
theorem k_M_walker_26_7 : bok m_M_walker 26 b_M_walker_26_7 = true := by decide +kernel
def b_M_walker_41_42 : List Ins := [(.aload_n 0, 0, 0, 0), (.getfield 9, 11, 0, 2), (.sipush (129), 0, 0, 0), (.iconst (3), 0, 0, 0), (.iload_n 3, 0, 0, 0), (.imul, 0, 0, 0), (.iadd, 0, 0, 0), (.iconst (0), 0, 0, 0), (.iadd, 0, 0, 0), (.iload_n 1, 0, 0, 0), (.iastore, 0, 0, 0), (.aload_n 0, 0, 0, 0), (.getfield 9, 11, 0, 2), (.sipush (129), 0, 0, 0), (.iconst (3), 0, 0, 0), (.iload_n 3, 0, 0, 0), (.imul, 0, 0, 0), (.iadd, 0, 0, 0), (.iconst (1), 0, 0, 0), (.iadd, 0, 0, 0), (.iload_n 2, 0, 0, 0), (.iastore, 0, 0, 0), (.aload_n 0, 0, 0, 0), (.getfield 9, 11, 0, 2), (.sipush (129), 0, 0, 0), (.iconst (3), 0, 0, 0), (.iload_n 3, 0, 0, 0), (.imul, 0, 0, 0), (.iadd, 0, 0, 0), (.iconst (2), 0, 0, 0), (.iadd, 0, 0, 0), (.iconst (0), 0, 0, 0), (.iastore, 0, 0, 0), (.aload_n 0, 0, 0, 0), (.getfield 9, 11, 0, 2), (.iconst (3), 0, 0, 0), (.dup2, 0, 0, 0), (.iaload, 0, 0, 0), (.iconst (1), 0, 0, 0), (.iadd, 0, 0, 0), (.iastore, 0, 0, 0), (.iload_n 3, 0, 0, 0)]
theorem k_M_walker_41_42 : bok m_M_walker 41 b_M_walker_41_42 = true := by decide +kernel
def b_M_walker_38_1 : List Ins := [(.bipush (-2), 0, 0, 0)]
theorem k_M_walker_38_1 : bok m_M_walker 38 b_M_walker_38_1 = true := by decide +kernel
theorem d_M_walker_2 : decode m_M_walker.2.1 2 = .ok (.invokevirtual 123, 3) := by decide +kernel
theorem d_M_walker_5 : decode m_M_walker.2.1 5 = .ok (.ifCond .eq (19), 3) := by decide +kernel
theorem d_M_walker_25 : decode m_M_walker.2.1 25 = .ok (.ireturn, 1) := by decide +kernel
theorem d_M_walker_9 : decode m_M_walker.2.1 9 = .ok (.invokestatic 175, 3) := by decide +kernel
theorem d_M_walker_12 : decode m_M_walker.2.1 12 = .ok (.ifCond .eq (12), 3) := by decide +kernel
theorem d_M_walker_17 : decode m_M_walker.2.1 17 = .ok (.invokevirtual 157, 3) := by decide +kernel
theorem d_M_walker_21 : decode m_M_walker.2.1 21 = .ok (.if_icmp .ge (5), 3) := by decide +kernel
theorem d_M_walker_35 : decode m_M_walker.2.1 35 = .ok (.if_icmp .ne (6), 3) := by decide +kernel
theorem d_M_walker_97 : decode m_M_walker.2.1 97 = .ok (.ireturn, 1) := by decide +kernel
theorem d_M_walker_40 : decode m_M_walker.2.1 40 = .ok (.ireturn, 1) := by decide +kernel
def f_M_walker  (S : hs) (x1 : Int32) (x2 : Int32) : Option (Int32 × hs) := bd (f_M_isCourse  S x1) fun r1 S2 => (if r1 = 0 then some ((-1 : Int32), S2) else bd (f_M_isWidth  S2 x2) fun r5 S6 => (if r5 = 0 then some ((-1 : Int32), S6) else bd (f_M_broadOf  S6 x1) fun r9 S10 => (if x2 ≤ r9 then (if (gI S10 192 3) = (4 : Int32) then some ((-2 : Int32), S10) else ck (inb (((129 : Int32) + ((3 : Int32) * (gI S10 192 3))) + (0 : Int32)) 358) (ck (inb (((129 : Int32) + ((3 : Int32) * (gI S10 192 3))) + (1 : Int32)) 358) (ck (inb (((129 : Int32) + ((3 : Int32) * (gI S10 192 3))) + (2 : Int32)) 358) (some ((gI S10 192 3), (uI (uI (uI (uI S10 192 ((((129 : Int32) + ((3 : Int32) * (gI S10 192 3))) + (0 : Int32))).toNatClampNeg x1) 192 ((((129 : Int32) + ((3 : Int32) * (gI S10 192 3))) + (1 : Int32))).toNatClampNeg x2) 192 ((((129 : Int32) + ((3 : Int32) * (gI S10 192 3))) + (2 : Int32))).toNatClampNeg (0 : Int32)) 192 3 ((gI (uI (uI (uI S10 192 ((((129 : Int32) + ((3 : Int32) * (gI S10 192 3))) + (0 : Int32))).toNatClampNeg x1) 192 ((((129 : Int32) + ((3 : Int32) * (gI S10 192 3))) + (1 : Int32))).toNatClampNeg x2) 192 ((((129 : Int32) + ((3 : Int32) * (gI S10 192 3))) + (2 : Int32))).toNatClampNeg (0 : Int32)) 192 3) + (1 : Int32)))))))) else some ((-1 : Int32), S10))))
theorem c_M_walker (w : Wd) (d : Nat) (c : cx)   (S : hs) (x1 : Int32) (x2 : Int32)  {z : Int32 × hs} (H : f_M_walker S x1 x2 = some z) : Cl w (d + 3) m_M_walker [.ref 191, .int x1, .int x2] (mk c S) (some (.int z.1)) (mk c z.2) := by
  refine Cl.of (Nat.le_refl _) (Nat.le_refl _) (by decide +kernel) (Nat.le_of_ble_eq_true rfl) ?_
  unfold f_M_walker at H
  generalize hN (mk c S) = n0
  generalize hZ (mk c S) = z0
  show J w (d + 3) m_M_walker (n0, z0, some (.int z.1), mk c z.2) 0 [some (.ref 191), some (.int x1), some (.int x2), none] [] (mk c S)
  refine J.run b_M_walker_0_2 k_M_walker_0_2 rfl (show J w (d + 3) m_M_walker (n0, z0, some (.int z.1), mk c z.2) 2 [some (.ref 191), some (.int x1), some (.int x2), none] [.int x1, .ref 191] (mk c S) from ?_)
  obtain ⟨r1, S2, h3, H⟩ := bd_e H
  refine J.callV (y := m_M_isCourse) (av := [.int x1]) (rest := []) (q := 191) l_M_123 d_M_walker_2 (isC_st rfl rfl) (c_M_isCourse w (d + 0) c  S x1 h3) rfl (Nat.le_of_ble_eq_true rfl) ⟨Nat.le_refl _, Nat.le_refl _⟩ (show J w (d + 3) m_M_walker (n0, z0, some (.int z.1), mk c z.2) 5 [some (.ref 191), some (.int x1), some (.int x2), none] [.int r1] (mk c S2) from ?_)
  refine J.zeq (tgt := 24) d_M_walker_5 rfl (fun q4 => ?_) (fun q4 => ?_)
  · have H := ite_t H q4
    refine J.run b_M_walker_24_1 k_M_walker_24_1 rfl (show J w (d + 3) m_M_walker (n0, z0, some (.int z.1), mk c z.2) 25 [some (.ref 191), some (.int x1), some (.int x2), none] [.int (-1 : Int32)] (mk c S2) from ?_)
    obtain rfl := some_e H
    exact J.iret d_M_walker_25 rfl rfl
  · have H := ite_f H q4
    refine J.run b_M_walker_8_1 k_M_walker_8_1 rfl (show J w (d + 3) m_M_walker (n0, z0, some (.int z.1), mk c z.2) 9 [some (.ref 191), some (.int x1), some (.int x2), none] [.int x2] (mk c S2) from ?_)
    obtain ⟨r5, S6, h7, H⟩ := bd_e H
    refine J.callS (y := m_M_isWidth) (av := [.int x2]) (rest := []) l_M_175 d_M_walker_9 (c_M_isWidth w (d + 0) c  S2 x2 h7) rfl (Nat.le_of_ble_eq_true rfl) ⟨Nat.le_refl _, Nat.le_refl _⟩ (show J w (d + 3) m_M_walker (n0, z0, some (.int z.1), mk c z.2) 12 [some (.ref 191), some (.int x1), some (.int x2), none] [.int r5] (mk c S6) from ?_)
    refine J.zeq (tgt := 24) d_M_walker_12 rfl (fun q8 => ?_) (fun q8 => ?_)
    · have H := ite_t H q8
      refine J.run b_M_walker_24_1 k_M_walker_24_1 rfl (show J w (d + 3) m_M_walker (n0, z0, some (.int z.1), mk c z.2) 25 [some (.ref 191), some (.int x1), some (.int x2), none] [.int (-1 : Int32)] (mk c S6) from ?_)
      obtain rfl := some_e H
      exact J.iret d_M_walker_25 rfl rfl
    · have H := ite_f H q8
      refine J.run b_M_walker_15_2 k_M_walker_15_2 rfl (show J w (d + 3) m_M_walker (n0, z0, some (.int z.1), mk c z.2) 17 [some (.ref 191), some (.int x1), some (.int x2), none] [.int x1, .ref 191] (mk c S6) from ?_)
      obtain ⟨r9, S10, h11, H⟩ := bd_e H
      refine J.callV (y := m_M_broadOf) (av := [.int x1]) (rest := []) (q := 191) l_M_157 d_M_walker_17 (isC_st rfl rfl) (c_M_broadOf w (d + 0) c  S6 x1 h11) rfl (Nat.le_of_ble_eq_true rfl) ⟨Nat.le_refl _, Nat.le_refl _⟩ (show J w (d + 3) m_M_walker (n0, z0, some (.int z.1), mk c z.2) 20 [some (.ref 191), some (.int x1), some (.int x2), none] [.int r9] (mk c S10) from ?_)
      refine J.run b_M_walker_20_1 k_M_walker_20_1 rfl (show J w (d + 3) m_M_walker (n0, z0, some (.int z.1), mk c z.2) 21 [some (.ref 191), some (.int x1), some (.int x2), none] [.int x2, .int r9] (mk c S10) from ?_)
      refine J.cge (tgt := 26) d_M_walker_21 rfl (fun q12 => ?_) (fun q12 => ?_)
      · have H := ite_t H q12
        refine J.run b_M_walker_26_7 k_M_walker_26_7 rfl (And.intro (okO_st (S := S10) rfl) (And.intro (okA_st (S := S10) (n := 358) rfl rfl) (show J w (d + 3) m_M_walker (n0, z0, some (.int z.1), mk c z.2) 35 [some (.ref 191), some (.int x1), some (.int x2), some (.int (gI S10 192 3))] [.int (4 : Int32), .int (gI S10 192 3)] (mk c S10) from ?_)))
        refine J.cne (tgt := 41) d_M_walker_35 rfl (fun q13 => ?_) (fun q13 => ?_)
        · have H := ite_f H q13
          obtain ⟨g14, H⟩ := ck_e H
          obtain ⟨g15, H⟩ := ck_e H
          obtain ⟨g16, H⟩ := ck_e H
          refine J.run b_M_walker_41_42 k_M_walker_41_42 rfl (And.intro (okO_st (S := S10) rfl) (And.intro (okB_st (S := S10) (n := 358) rfl g14) (And.intro (okO_st (S := (uI S10 192 ((((129 : Int32) + ((3 : Int32) * (gI S10 192 3))) + (0 : Int32))).toNatClampNeg x1)) rfl) (And.intro (okB_st (S := (uI S10 192 ((((129 : Int32) + ((3 : Int32) * (gI S10 192 3))) + (0 : Int32))).toNatClampNeg x1)) (n := 358) rfl g15) (And.intro (okO_st (S := (uI (uI S10 192 ((((129 : Int32) + ((3 : Int32) * (gI S10 192 3))) + (0 : Int32))).toNatClampNeg x1) 192 ((((129 : Int32) + ((3 : Int32) * (gI S10 192 3))) + (1 : Int32))).toNatClampNeg x2)) rfl) (And.intro (okB_st (S := (uI (uI S10 192 ((((129 : Int32) + ((3 : Int32) * (gI S10 192 3))) + (0 : Int32))).toNatClampNeg x1) 192 ((((129 : Int32) + ((3 : Int32) * (gI S10 192 3))) + (1 : Int32))).toNatClampNeg x2)) (n := 358) rfl g16) (And.intro (okO_st (S := (uI (uI (uI S10 192 ((((129 : Int32) + ((3 : Int32) * (gI S10 192 3))) + (0 : Int32))).toNatClampNeg x1) 192 ((((129 : Int32) + ((3 : Int32) * (gI S10 192 3))) + (1 : Int32))).toNatClampNeg x2) 192 ((((129 : Int32) + ((3 : Int32) * (gI S10 192 3))) + (2 : Int32))).toNatClampNeg (0 : Int32))) rfl) (And.intro (okA_st (S := (uI (uI (uI S10 192 ((((129 : Int32) + ((3 : Int32) * (gI S10 192 3))) + (0 : Int32))).toNatClampNeg x1) 192 ((((129 : Int32) + ((3 : Int32) * (gI S10 192 3))) + (1 : Int32))).toNatClampNeg x2) 192 ((((129 : Int32) + ((3 : Int32) * (gI S10 192 3))) + (2 : Int32))).toNatClampNeg (0 : Int32))) (n := 358) rfl rfl) (And.intro (okB_st (S := (uI (uI (uI S10 192 ((((129 : Int32) + ((3 : Int32) * (gI S10 192 3))) + (0 : Int32))).toNatClampNeg x1) 192 ((((129 : Int32) + ((3 : Int32) * (gI S10 192 3))) + (1 : Int32))).toNatClampNeg x2) 192 ((((129 : Int32) + ((3 : Int32) * (gI S10 192 3))) + (2 : Int32))).toNatClampNeg (0 : Int32))) (n := 358) rfl rfl) (show J w (d + 3) m_M_walker (n0, z0, some (.int z.1), mk c z.2) 97 [some (.ref 191), some (.int x1), some (.int x2), some (.int (gI S10 192 3))] [.int (gI S10 192 3)] (mk c (uI (uI (uI (uI S10 192 ((((129 : Int32) + ((3 : Int32) * (gI S10 192 3))) + (0 : Int32))).toNatClampNeg x1) 192 ((((129 : Int32) + ((3 : Int32) * (gI S10 192 3))) + (1 : Int32))).toNatClampNeg x2) 192 ((((129 : Int32) + ((3 : Int32) * (gI S10 192 3))) + (2 : Int32))).toNatClampNeg (0 : Int32)) 192 3 ((gI (uI (uI (uI S10 192 ((((129 : Int32) + ((3 : Int32) * (gI S10 192 3))) + (0 : Int32))).toNatClampNeg x1) 192 ((((129 : Int32) + ((3 : Int32) * (gI S10 192 3))) + (1 : Int32))).toNatClampNeg x2) 192 ((((129 : Int32) + ((3 : Int32) * (gI S10 192 3))) + (2 : Int32))).toNatClampNeg (0 : Int32)) 192 3) + (1 : Int32)))) from ?_))))))))))
          obtain rfl := some_e H
          exact J.iret d_M_walker_97 rfl rfl
        · have H := ite_t H q13
          refine J.run b_M_walker_38_1 k_M_walker_38_1 rfl (show J w (d + 3) m_M_walker (n0, z0, some (.int z.1), mk c z.2) 40 [some (.ref 191), some (.int x1), some (.int x2), some (.int (gI S10 192 3))] [.int (-2 : Int32)] (mk c S10) from ?_)
          obtain rfl := some_e H
          exact J.iret d_M_walker_40 rfl rfl
      · have H := ite_f H q12
        refine J.run b_M_walker_24_1 k_M_walker_24_1 rfl (show J w (d + 3) m_M_walker (n0, z0, some (.int z.1), mk c z.2) 25 [some (.ref 191), some (.int x1), some (.int x2), none] [.int (-1 : Int32)] (mk c S10) from ?_)
        obtain rfl := some_e H
        exact J.iret d_M_walker_25 rfl rfl
def b_M_walkerIs_0_10 : List Ins := [(.aload_n 0, 0, 0, 0), (.getfield 9, 11, 0, 2), (.sipush (129), 0, 0, 0), (.iconst (3), 0, 0, 0), (.iload_n 1, 0, 0, 0), (.imul, 0, 0, 0), (.iadd, 0, 0, 0), (.iload_n 2, 0, 0, 0), (.iadd, 0, 0, 0), (.iaload, 0, 0, 0)]
theorem k_M_walkerIs_0_10 : bok m_M_walkerIs 0 b_M_walkerIs_0_10 = true := by decide +kernel
theorem d_M_walkerIs_14 : decode m_M_walkerIs.2.1 14 = .ok (.ireturn, 1) := by decide +kernel
def f_M_walkerIs  (S : hs) (x1 : Int32) (x2 : Int32) : Option (Int32 × hs) := ck (inb (((129 : Int32) + ((3 : Int32) * x1)) + x2) 358) (some ((gI S 192 ((((129 : Int32) + ((3 : Int32) * x1)) + x2)).toNatClampNeg), S))
theorem c_M_walkerIs (w : Wd) (d : Nat) (c : cx)   (S : hs) (x1 : Int32) (x2 : Int32)  {z : Int32 × hs} (H : f_M_walkerIs S x1 x2 = some z) : Cl w (d + 1) m_M_walkerIs [.ref 191, .int x1, .int x2] (mk c S) (some (.int z.1)) (mk c z.2) := by
  refine Cl.of (Nat.le_refl _) (Nat.le_refl _) (by decide +kernel) (Nat.le_of_ble_eq_true rfl) ?_
  unfold f_M_walkerIs at H
  generalize hN (mk c S) = n0
  generalize hZ (mk c S) = z0
  show J w (d + 1) m_M_walkerIs (n0, z0, some (.int z.1), mk c z.2) 0 [some (.ref 191), some (.int x1), some (.int x2)] [] (mk c S)
  obtain ⟨g1, H⟩ := ck_e H
  refine J.run b_M_walkerIs_0_10 k_M_walkerIs_0_10 rfl (And.intro (okO_st (S := S) rfl) (And.intro (okA_st (S := S) (n := 358) rfl g1) (show J w (d + 1) m_M_walkerIs (n0, z0, some (.int z.1), mk c z.2) 14 [some (.ref 191), some (.int x1), some (.int x2)] [.int (gI S 192 ((((129 : Int32) + ((3 : Int32) * x1)) + x2)).toNatClampNeg)] (mk c S) from ?_)))
  obtain rfl := some_e H
  exact J.iret d_M_walkerIs_14 rfl rfl
def b_M_walkerOf_0_3 : List Ins := [(.aload_n 0, 0, 0, 0), (.iload_n 1, 0, 0, 0), (.iconst (3), 0, 0, 0)]
theorem k_M_walkerOf_0_3 : bok m_M_walkerOf 0 b_M_walkerOf_0_3 = true := by decide +kernel
def b_M_walkerOf_27_1 : List Ins := [(.iconst (-1), 0, 0, 0)]
theorem k_M_walkerOf_27_1 : bok m_M_walkerOf 27 b_M_walkerOf_27_1 = true := by decide +kernel
def b_M_walkerOf_9_3 : List Ins := [(.iload_n 2, 0, 0, 0), (.iconst (0), 0, 0, 0), (.iconst (2), 0, 0, 0)]
theorem k_M_walkerOf_9_3 : bok m_M_walkerOf 9 b_M_walkerOf_9_3 = true := by decide +kernel
def b_M_walkerOf_18_3 : List Ins := [(.aload_n 0, 0, 0, 0), (.iload_n 1, 0, 0, 0), (.iload_n 2, 0, 0, 0)]
theorem k_M_walkerOf_18_3 : bok m_M_walkerOf 18 b_M_walkerOf_18_3 = true := by decide +kernel
theorem d_M_walkerOf_3 : decode m_M_walkerOf.2.1 3 = .ok (.invokevirtual 120, 3) := by decide +kernel
theorem d_M_walkerOf_6 : decode m_M_walkerOf.2.1 6 = .ok (.ifCond .eq (21), 3) := by decide +kernel
theorem d_M_walkerOf_28 : decode m_M_walkerOf.2.1 28 = .ok (.ireturn, 1) := by decide +kernel
theorem d_M_walkerOf_12 : decode m_M_walkerOf.2.1 12 = .ok (.invokestatic 105, 3) := by decide +kernel
theorem d_M_walkerOf_15 : decode m_M_walkerOf.2.1 15 = .ok (.ifCond .eq (12), 3) := by decide +kernel
theorem d_M_walkerOf_21 : decode m_M_walkerOf.2.1 21 = .ok (.invokevirtual 270, 3) := by decide +kernel
theorem d_M_walkerOf_24 : decode m_M_walkerOf.2.1 24 = .ok (.goto (4), 3) := by decide +kernel
def f_M_walkerOf  (S : hs) (x1 : Int32) (x2 : Int32) : Option (Int32 × hs) := bd (f_M_is  S x1 (3 : Int32)) fun r1 S2 => (if r1 = 0 then some ((-1 : Int32), S2) else bd (f_M_in  S2 x2 (0 : Int32) (2 : Int32)) fun r5 S6 => (if r5 = 0 then some ((-1 : Int32), S6) else bd (f_M_walkerIs  S6 x1 x2) fun r9 S10 => some (r9, S10)))
theorem c_M_walkerOf (w : Wd) (d : Nat) (c : cx)   (S : hs) (x1 : Int32) (x2 : Int32)  {z : Int32 × hs} (H : f_M_walkerOf S x1 x2 = some z) : Cl w (d + 3) m_M_walkerOf [.ref 191, .int x1, .int x2] (mk c S) (some (.int z.1)) (mk c z.2) := by
  refine Cl.of (Nat.le_refl _) (Nat.le_refl _) (by decide +kernel) (Nat.le_of_ble_eq_true rfl) ?_
  unfold f_M_walkerOf at H
  generalize hN (mk c S) = n0
  generalize hZ (mk c S) = z0
  show J w (d + 3) m_M_walkerOf (n0, z0, some (.int z.1), mk c z.2) 0 [some (.ref 191), some (.int x1), some (.int x2)] [] (mk c S)
  refine J.run b_M_walkerOf_0_3 k_M_walkerOf_0_3 rfl (show J w (d + 3) m_M_walkerOf (n0, z0, some (.int z.1), mk c z.2) 3 [some (.ref 191), some (.int x1), some (.int x2)] [.int (3 : Int32), .int x1, .ref 191] (mk c S) from ?_)
  obtain ⟨r1, S2, h3, H⟩ := bd_e H
  refine J.callV (y := m_M_is) (av := [.int x1, .int (3 : Int32)]) (rest := []) (q := 191) l_M_120 d_M_walkerOf_3 (isC_st rfl rfl) (c_M_is w (d + 0) c  S x1 (3 : Int32) h3) rfl (Nat.le_of_ble_eq_true rfl) ⟨Nat.le_refl _, Nat.le_refl _⟩ (show J w (d + 3) m_M_walkerOf (n0, z0, some (.int z.1), mk c z.2) 6 [some (.ref 191), some (.int x1), some (.int x2)] [.int r1] (mk c S2) from ?_)
  refine J.zeq (tgt := 27) d_M_walkerOf_6 rfl (fun q4 => ?_) (fun q4 => ?_)
  · have H := ite_t H q4
    refine J.run b_M_walkerOf_27_1 k_M_walkerOf_27_1 rfl (show J w (d + 3) m_M_walkerOf (n0, z0, some (.int z.1), mk c z.2) 28 [some (.ref 191), some (.int x1), some (.int x2)] [.int (-1 : Int32)] (mk c S2) from ?_)
    obtain rfl := some_e H
    exact J.iret d_M_walkerOf_28 rfl rfl
  · have H := ite_f H q4
    refine J.run b_M_walkerOf_9_3 k_M_walkerOf_9_3 rfl (show J w (d + 3) m_M_walkerOf (n0, z0, some (.int z.1), mk c z.2) 12 [some (.ref 191), some (.int x1), some (.int x2)] [.int (2 : Int32), .int (0 : Int32), .int x2] (mk c S2) from ?_)
    obtain ⟨r5, S6, h7, H⟩ := bd_e H
    refine J.callS (y := m_M_in) (av := [.int x2, .int (0 : Int32), .int (2 : Int32)]) (rest := []) l_M_105 d_M_walkerOf_12 (c_M_in w (d + 1) c  S2 x2 (0 : Int32) (2 : Int32) h7) rfl (Nat.le_of_ble_eq_true rfl) ⟨Nat.le_refl _, Nat.le_refl _⟩ (show J w (d + 3) m_M_walkerOf (n0, z0, some (.int z.1), mk c z.2) 15 [some (.ref 191), some (.int x1), some (.int x2)] [.int r5] (mk c S6) from ?_)
    refine J.zeq (tgt := 27) d_M_walkerOf_15 rfl (fun q8 => ?_) (fun q8 => ?_)
    · have H := ite_t H q8
      refine J.run b_M_walkerOf_27_1 k_M_walkerOf_27_1 rfl (show J w (d + 3) m_M_walkerOf (n0, z0, some (.int z.1), mk c z.2) 28 [some (.ref 191), some (.int x1), some (.int x2)] [.int (-1 : Int32)] (mk c S6) from ?_)
      obtain rfl := some_e H
      exact J.iret d_M_walkerOf_28 rfl rfl
    · have H := ite_f H q8
      refine J.run b_M_walkerOf_18_3 k_M_walkerOf_18_3 rfl (show J w (d + 3) m_M_walkerOf (n0, z0, some (.int z.1), mk c z.2) 21 [some (.ref 191), some (.int x1), some (.int x2)] [.int x2, .int x1, .ref 191] (mk c S6) from ?_)
      obtain ⟨r9, S10, h11, H⟩ := bd_e H
      refine J.callV (y := m_M_walkerIs) (av := [.int x1, .int x2]) (rest := []) (q := 191) l_M_270 d_M_walkerOf_21 (isC_st rfl rfl) (c_M_walkerIs w (d + 1) c  S6 x1 x2 h11) rfl (Nat.le_of_ble_eq_true rfl) ⟨Nat.le_refl _, Nat.le_refl _⟩ (show J w (d + 3) m_M_walkerOf (n0, z0, some (.int z.1), mk c z.2) 24 [some (.ref 191), some (.int x1), some (.int x2)] [.int r9] (mk c S10) from ?_)
      refine J.goto (tgt := 28) d_M_walkerOf_24 rfl ?_
      obtain rfl := some_e H
      exact J.iret d_M_walkerOf_28 rfl rfl
def b_M_go_0_3 : List Ins := [(.aload_n 0, 0, 0, 0), (.iload_n 1, 0, 0, 0), (.iconst (3), 0, 0, 0)]
theorem k_M_go_0_3 : bok m_M_go 0 b_M_go_0_3 = true := by decide +kernel
def b_M_go_16_1 : List Ins := [(.iconst (-1), 0, 0, 0)]
theorem k_M_go_16_1 : bok m_M_go 16 b_M_go_16_1 = true := by decide +kernel
def b_M_go_9_1 : List Ins := [(.iload_n 2, 0, 0, 0)]
theorem k_M_go_9_1 : bok m_M_go 9 b_M_go_9_1 = true := by decide +kernel
def b_M_go_18_3 : List Ins := [(.aload_n 0, 0, 0, 0), (.iload_n 1, 0, 0, 0), (.iconst (0), 0, 0, 0)]
theorem k_M_go_18_3 : bok m_M_go 18 b_M_go_18_3 = true := by decide +kernel
def b_M_go_24_4 : List Ins := [(.istore_n 3, 0, 0, 0), (.aload_n 0, 0, 0, 0), (.iload_n 3, 0, 0, 0), (.iload_n 2, 0, 0, 0)]
theorem k_M_go_24_4 : bok m_M_go 24 b_M_go_24_4 = true := by decide +kernel
def b_M_go_37_6 : List Ins := [(.aload_n 0, 0, 0, 0), (.iload_n 3, 0, 0, 0), (.iload_n 2, 0, 0, 0), (.aload_n 0, 0, 0, 0), (.iload_n 1, 0, 0, 0), (.iconst (1), 0, 0, 0)]
theorem k_M_go_37_6 : bok m_M_go 37 b_M_go_37_6 = true := by decide +kernel
def b_M_go_55_26 : List Ins := [(.aload_n 0, 0, 0, 0), (.getfield 9, 11, 0, 2), (.sipush (129), 0, 0, 0), (.iconst (3), 0, 0, 0), (.iload_n 1, 0, 0, 0), (.imul, 0, 0, 0), (.iadd, 0, 0, 0), (.iconst (0), 0, 0, 0), (.iadd, 0, 0, 0), (.iload_n 2, 0, 0, 0), (.iastore, 0, 0, 0), (.aload_n 0, 0, 0, 0), (.getfield 9, 11, 0, 2), (.sipush (129), 0, 0, 0), (.iconst (3), 0, 0, 0), (.iload_n 1, 0, 0, 0), (.imul, 0, 0, 0), (.iadd, 0, 0, 0), (.iconst (2), 0, 0, 0), (.iadd, 0, 0, 0), (.dup2, 0, 0, 0), (.iaload, 0, 0, 0), (.aload_n 0, 0, 0, 0), (.iload_n 2, 0, 0, 0), (.iconst (2), 0, 0, 0), (.idiv, 0, 0, 0)]
theorem k_M_go_55_26 : bok m_M_go 55 b_M_go_55_26 = true := by decide +kernel
def b_M_go_92_5 : List Ins := [(.iadd, 0, 0, 0), (.iastore, 0, 0, 0), (.aload_n 0, 0, 0, 0), (.iload_n 1, 0, 0, 0), (.iconst (2), 0, 0, 0)]
theorem k_M_go_92_5 : bok m_M_go 92 b_M_go_92_5 = true := by decide +kernel
def b_M_go_52_1 : List Ins := [(.bipush (-4), 0, 0, 0)]
theorem k_M_go_52_1 : bok m_M_go 52 b_M_go_52_1 = true := by decide +kernel
def b_M_go_34_1 : List Ins := [(.bipush (-3), 0, 0, 0)]
theorem k_M_go_34_1 : bok m_M_go 34 b_M_go_34_1 = true := by decide +kernel
theorem d_M_go_3 : decode m_M_go.2.1 3 = .ok (.invokevirtual 120, 3) := by decide +kernel
theorem d_M_go_6 : decode m_M_go.2.1 6 = .ok (.ifCond .eq (10), 3) := by decide +kernel
theorem d_M_go_17 : decode m_M_go.2.1 17 = .ok (.ireturn, 1) := by decide +kernel
theorem d_M_go_10 : decode m_M_go.2.1 10 = .ok (.invokestatic 151, 3) := by decide +kernel
theorem d_M_go_13 : decode m_M_go.2.1 13 = .ok (.ifCond .ne (5), 3) := by decide +kernel
theorem d_M_go_21 : decode m_M_go.2.1 21 = .ok (.invokevirtual 270, 3) := by decide +kernel
theorem d_M_go_28 : decode m_M_go.2.1 28 = .ok (.invokevirtual 154, 3) := by decide +kernel
theorem d_M_go_31 : decode m_M_go.2.1 31 = .ok (.ifCond .ne (6), 3) := by decide +kernel
theorem d_M_go_43 : decode m_M_go.2.1 43 = .ok (.invokevirtual 270, 3) := by decide +kernel
theorem d_M_go_46 : decode m_M_go.2.1 46 = .ok (.invokevirtual 178, 3) := by decide +kernel
theorem d_M_go_49 : decode m_M_go.2.1 49 = .ok (.ifCond .ne (6), 3) := by decide +kernel
theorem d_M_go_89 : decode m_M_go.2.1 89 = .ok (.invokevirtual 142, 3) := by decide +kernel
theorem d_M_go_97 : decode m_M_go.2.1 97 = .ok (.invokevirtual 270, 3) := by decide +kernel
theorem d_M_go_100 : decode m_M_go.2.1 100 = .ok (.ireturn, 1) := by decide +kernel
theorem d_M_go_54 : decode m_M_go.2.1 54 = .ok (.ireturn, 1) := by decide +kernel
theorem d_M_go_36 : decode m_M_go.2.1 36 = .ok (.ireturn, 1) := by decide +kernel
def f_M_go  (S : hs) (x1 : Int32) (x2 : Int32) : Option (Int32 × hs) := bd (f_M_is  S x1 (3 : Int32)) fun r1 S2 => (if r1 = 0 then some ((-1 : Int32), S2) else bd (f_M_isIndex  S2 x2) fun r5 S6 => (if r5 = 0 then some ((-1 : Int32), S6) else bd (f_M_walkerIs  S6 x1 (0 : Int32)) fun r9 S10 => bd (f_M_kindOf  S10 r9 x2) fun r12 S13 => (if r12 = 0 then some ((-3 : Int32), S13) else bd (f_M_walkerIs  S13 x1 (1 : Int32)) fun r16 S17 => bd (f_M_mayGo  S17 r9 x2 r16) fun r19 S20 => (if r19 = 0 then some ((-4 : Int32), S20) else ck (inb (((129 : Int32) + ((3 : Int32) * x1)) + (0 : Int32)) 358) (ck (inb (((129 : Int32) + ((3 : Int32) * x1)) + (2 : Int32)) 358) (bd (f_M_longOf  (uI S20 192 ((((129 : Int32) + ((3 : Int32) * x1)) + (0 : Int32))).toNatClampNeg x2) (x2 / (2 : Int32))) fun r25 S26 => bd (f_M_walkerIs  (uI S26 192 ((((129 : Int32) + ((3 : Int32) * x1)) + (2 : Int32))).toNatClampNeg ((gI (uI S20 192 ((((129 : Int32) + ((3 : Int32) * x1)) + (0 : Int32))).toNatClampNeg x2) 192 ((((129 : Int32) + ((3 : Int32) * x1)) + (2 : Int32))).toNatClampNeg) + r25)) x1 (2 : Int32)) fun r28 S29 => some (r28, S29)))))))
theorem c_M_go (w : Wd) (d : Nat) (c : cx)   (S : hs) (x1 : Int32) (x2 : Int32)  {z : Int32 × hs} (H : f_M_go S x1 x2 = some z) : Cl w (d + 7) m_M_go [.ref 191, .int x1, .int x2] (mk c S) (some (.int z.1)) (mk c z.2) := by
  refine Cl.of (Nat.le_refl _) (Nat.le_refl _) (by decide +kernel) (Nat.le_of_ble_eq_true rfl) ?_
  unfold f_M_go at H
  generalize hN (mk c S) = n0
  generalize hZ (mk c S) = z0
  show J w (d + 7) m_M_go (n0, z0, some (.int z.1), mk c z.2) 0 [some (.ref 191), some (.int x1), some (.int x2), none] [] (mk c S)
  refine J.run b_M_go_0_3 k_M_go_0_3 rfl (show J w (d + 7) m_M_go (n0, z0, some (.int z.1), mk c z.2) 3 [some (.ref 191), some (.int x1), some (.int x2), none] [.int (3 : Int32), .int x1, .ref 191] (mk c S) from ?_)
  obtain ⟨r1, S2, h3, H⟩ := bd_e H
  refine J.callV (y := m_M_is) (av := [.int x1, .int (3 : Int32)]) (rest := []) (q := 191) l_M_120 d_M_go_3 (isC_st rfl rfl) (c_M_is w (d + 4) c  S x1 (3 : Int32) h3) rfl (Nat.le_of_ble_eq_true rfl) ⟨Nat.le_refl _, Nat.le_refl _⟩ (show J w (d + 7) m_M_go (n0, z0, some (.int z.1), mk c z.2) 6 [some (.ref 191), some (.int x1), some (.int x2), none] [.int r1] (mk c S2) from ?_)
  refine J.zeq (tgt := 16) d_M_go_6 rfl (fun q4 => ?_) (fun q4 => ?_)
  · have H := ite_t H q4
    refine J.run b_M_go_16_1 k_M_go_16_1 rfl (show J w (d + 7) m_M_go (n0, z0, some (.int z.1), mk c z.2) 17 [some (.ref 191), some (.int x1), some (.int x2), none] [.int (-1 : Int32)] (mk c S2) from ?_)
    obtain rfl := some_e H
    exact J.iret d_M_go_17 rfl rfl
  · have H := ite_f H q4
    refine J.run b_M_go_9_1 k_M_go_9_1 rfl (show J w (d + 7) m_M_go (n0, z0, some (.int z.1), mk c z.2) 10 [some (.ref 191), some (.int x1), some (.int x2), none] [.int x2] (mk c S2) from ?_)
    obtain ⟨r5, S6, h7, H⟩ := bd_e H
    refine J.callS (y := m_M_isIndex) (av := [.int x2]) (rest := []) l_M_151 d_M_go_10 (c_M_isIndex w (d + 4) c  S2 x2 h7) rfl (Nat.le_of_ble_eq_true rfl) ⟨Nat.le_refl _, Nat.le_refl _⟩ (show J w (d + 7) m_M_go (n0, z0, some (.int z.1), mk c z.2) 13 [some (.ref 191), some (.int x1), some (.int x2), none] [.int r5] (mk c S6) from ?_)
    refine J.zne (tgt := 18) d_M_go_13 rfl (fun q8 => ?_) (fun q8 => ?_)
    · have H := ite_f H q8
      refine J.run b_M_go_18_3 k_M_go_18_3 rfl (show J w (d + 7) m_M_go (n0, z0, some (.int z.1), mk c z.2) 21 [some (.ref 191), some (.int x1), some (.int x2), none] [.int (0 : Int32), .int x1, .ref 191] (mk c S6) from ?_)
      obtain ⟨r9, S10, h11, H⟩ := bd_e H
      refine J.callV (y := m_M_walkerIs) (av := [.int x1, .int (0 : Int32)]) (rest := []) (q := 191) l_M_270 d_M_go_21 (isC_st rfl rfl) (c_M_walkerIs w (d + 5) c  S6 x1 (0 : Int32) h11) rfl (Nat.le_of_ble_eq_true rfl) ⟨Nat.le_refl _, Nat.le_refl _⟩ (show J w (d + 7) m_M_go (n0, z0, some (.int z.1), mk c z.2) 24 [some (.ref 191), some (.int x1), some (.int x2), none] [.int r9] (mk c S10) from ?_)
      refine J.run b_M_go_24_4 k_M_go_24_4 rfl (show J w (d + 7) m_M_go (n0, z0, some (.int z.1), mk c z.2) 28 [some (.ref 191), some (.int x1), some (.int x2), some (.int r9)] [.int x2, .int r9, .ref 191] (mk c S10) from ?_)
      obtain ⟨r12, S13, h14, H⟩ := bd_e H
      refine J.callV (y := m_M_kindOf) (av := [.int r9, .int x2]) (rest := []) (q := 191) l_M_154 d_M_go_28 (isC_st rfl rfl) (c_M_kindOf w (d + 3) c  S10 r9 x2 h14) rfl (Nat.le_of_ble_eq_true rfl) ⟨Nat.le_refl _, Nat.le_refl _⟩ (show J w (d + 7) m_M_go (n0, z0, some (.int z.1), mk c z.2) 31 [some (.ref 191), some (.int x1), some (.int x2), some (.int r9)] [.int r12] (mk c S13) from ?_)
      refine J.zne (tgt := 37) d_M_go_31 rfl (fun q15 => ?_) (fun q15 => ?_)
      · have H := ite_f H q15
        refine J.run b_M_go_37_6 k_M_go_37_6 rfl (show J w (d + 7) m_M_go (n0, z0, some (.int z.1), mk c z.2) 43 [some (.ref 191), some (.int x1), some (.int x2), some (.int r9)] [.int (1 : Int32), .int x1, .ref 191, .int x2, .int r9, .ref 191] (mk c S13) from ?_)
        obtain ⟨r16, S17, h18, H⟩ := bd_e H
        refine J.callV (y := m_M_walkerIs) (av := [.int x1, .int (1 : Int32)]) (rest := [.int x2, .int r9, .ref 191]) (q := 191) l_M_270 d_M_go_43 (isC_st rfl rfl) (c_M_walkerIs w (d + 5) c  S13 x1 (1 : Int32) h18) rfl (Nat.le_of_ble_eq_true rfl) ⟨Nat.le_refl _, Nat.le_refl _⟩ (show J w (d + 7) m_M_go (n0, z0, some (.int z.1), mk c z.2) 46 [some (.ref 191), some (.int x1), some (.int x2), some (.int r9)] [.int r16, .int x2, .int r9, .ref 191] (mk c S17) from ?_)
        obtain ⟨r19, S20, h21, H⟩ := bd_e H
        refine J.callV (y := m_M_mayGo) (av := [.int r9, .int x2, .int r16]) (rest := []) (q := 191) l_M_178 d_M_go_46 (isC_st rfl rfl) (c_M_mayGo w (d + 0) c  S17 r9 x2 r16 h21) rfl (Nat.le_of_ble_eq_true rfl) ⟨Nat.le_refl _, Nat.le_refl _⟩ (show J w (d + 7) m_M_go (n0, z0, some (.int z.1), mk c z.2) 49 [some (.ref 191), some (.int x1), some (.int x2), some (.int r9)] [.int r19] (mk c S20) from ?_)
        refine J.zne (tgt := 55) d_M_go_49 rfl (fun q22 => ?_) (fun q22 => ?_)
        · have H := ite_f H q22
          obtain ⟨g23, H⟩ := ck_e H
          obtain ⟨g24, H⟩ := ck_e H
          refine J.run b_M_go_55_26 k_M_go_55_26 rfl (And.intro (okO_st (S := S20) rfl) (And.intro (okB_st (S := S20) (n := 358) rfl g23) (And.intro (okO_st (S := (uI S20 192 ((((129 : Int32) + ((3 : Int32) * x1)) + (0 : Int32))).toNatClampNeg x2)) rfl) (And.intro (okA_st (S := (uI S20 192 ((((129 : Int32) + ((3 : Int32) * x1)) + (0 : Int32))).toNatClampNeg x2)) (n := 358) rfl g24) (And.intro (by decide) (show J w (d + 7) m_M_go (n0, z0, some (.int z.1), mk c z.2) 89 [some (.ref 191), some (.int x1), some (.int x2), some (.int r9)] [.int (x2 / (2 : Int32)), .ref 191, .int (gI (uI S20 192 ((((129 : Int32) + ((3 : Int32) * x1)) + (0 : Int32))).toNatClampNeg x2) 192 ((((129 : Int32) + ((3 : Int32) * x1)) + (2 : Int32))).toNatClampNeg), .int (((129 : Int32) + ((3 : Int32) * x1)) + (2 : Int32)), .ref 192] (mk c (uI S20 192 ((((129 : Int32) + ((3 : Int32) * x1)) + (0 : Int32))).toNatClampNeg x2)) from ?_))))))
          obtain ⟨r25, S26, h27, H⟩ := bd_e H
          refine J.callV (y := m_M_longOf) (av := [.int (x2 / (2 : Int32))]) (rest := [.int (gI (uI S20 192 ((((129 : Int32) + ((3 : Int32) * x1)) + (0 : Int32))).toNatClampNeg x2) 192 ((((129 : Int32) + ((3 : Int32) * x1)) + (2 : Int32))).toNatClampNeg), .int (((129 : Int32) + ((3 : Int32) * x1)) + (2 : Int32)), .ref 192]) (q := 191) l_M_142 d_M_go_89 (isC_st rfl rfl) (c_M_longOf w (d + 4) c  (uI S20 192 ((((129 : Int32) + ((3 : Int32) * x1)) + (0 : Int32))).toNatClampNeg x2) (x2 / (2 : Int32)) h27) rfl (Nat.le_of_ble_eq_true rfl) ⟨Nat.le_refl _, Nat.le_refl _⟩ (show J w (d + 7) m_M_go (n0, z0, some (.int z.1), mk c z.2) 92 [some (.ref 191), some (.int x1), some (.int x2), some (.int r9)] [.int r25, .int (gI (uI S20 192 ((((129 : Int32) + ((3 : Int32) * x1)) + (0 : Int32))).toNatClampNeg x2) 192 ((((129 : Int32) + ((3 : Int32) * x1)) + (2 : Int32))).toNatClampNeg), .int (((129 : Int32) + ((3 : Int32) * x1)) + (2 : Int32)), .ref 192] (mk c S26) from ?_)
          refine J.run b_M_go_92_5 k_M_go_92_5 rfl (And.intro (okB_st (S := S26) (n := 358) rfl g24) (show J w (d + 7) m_M_go (n0, z0, some (.int z.1), mk c z.2) 97 [some (.ref 191), some (.int x1), some (.int x2), some (.int r9)] [.int (2 : Int32), .int x1, .ref 191] (mk c (uI S26 192 ((((129 : Int32) + ((3 : Int32) * x1)) + (2 : Int32))).toNatClampNeg ((gI (uI S20 192 ((((129 : Int32) + ((3 : Int32) * x1)) + (0 : Int32))).toNatClampNeg x2) 192 ((((129 : Int32) + ((3 : Int32) * x1)) + (2 : Int32))).toNatClampNeg) + r25))) from ?_))
          obtain ⟨r28, S29, h30, H⟩ := bd_e H
          refine J.callV (y := m_M_walkerIs) (av := [.int x1, .int (2 : Int32)]) (rest := []) (q := 191) l_M_270 d_M_go_97 (isC_st rfl rfl) (c_M_walkerIs w (d + 5) c  (uI S26 192 ((((129 : Int32) + ((3 : Int32) * x1)) + (2 : Int32))).toNatClampNeg ((gI (uI S20 192 ((((129 : Int32) + ((3 : Int32) * x1)) + (0 : Int32))).toNatClampNeg x2) 192 ((((129 : Int32) + ((3 : Int32) * x1)) + (2 : Int32))).toNatClampNeg) + r25)) x1 (2 : Int32) h30) rfl (Nat.le_of_ble_eq_true rfl) ⟨Nat.le_refl _, Nat.le_refl _⟩ (show J w (d + 7) m_M_go (n0, z0, some (.int z.1), mk c z.2) 100 [some (.ref 191), some (.int x1), some (.int x2), some (.int r9)] [.int r28] (mk c S29) from ?_)
          obtain rfl := some_e H
          exact J.iret d_M_go_100 rfl rfl
        · have H := ite_t H q22
          refine J.run b_M_go_52_1 k_M_go_52_1 rfl (show J w (d + 7) m_M_go (n0, z0, some (.int z.1), mk c z.2) 54 [some (.ref 191), some (.int x1), some (.int x2), some (.int r9)] [.int (-4 : Int32)] (mk c S20) from ?_)
          obtain rfl := some_e H
          exact J.iret d_M_go_54 rfl rfl
      · have H := ite_t H q15
        refine J.run b_M_go_34_1 k_M_go_34_1 rfl (show J w (d + 7) m_M_go (n0, z0, some (.int z.1), mk c z.2) 36 [some (.ref 191), some (.int x1), some (.int x2), some (.int r9)] [.int (-3 : Int32)] (mk c S13) from ?_)
        obtain rfl := some_e H
        exact J.iret d_M_go_36 rfl rfl
    · have H := ite_t H q8
      refine J.run b_M_go_16_1 k_M_go_16_1 rfl (show J w (d + 7) m_M_go (n0, z0, some (.int z.1), mk c z.2) 17 [some (.ref 191), some (.int x1), some (.int x2), none] [.int (-1 : Int32)] (mk c S6) from ?_)
      obtain rfl := some_e H
      exact J.iret d_M_go_17 rfl rfl
def b_M_put_0_3 : List Ins := [(.aload_n 0, 0, 0, 0), (.iload_n 1, 0, 0, 0), (.iconst (3), 0, 0, 0)]
theorem k_M_put_0_3 : bok m_M_put 0 b_M_put_0_3 = true := by decide +kernel
def b_M_put_31_1 : List Ins := [(.iconst (-1), 0, 0, 0)]
theorem k_M_put_31_1 : bok m_M_put 31 b_M_put_31_1 = true := by decide +kernel
def b_M_put_9_2 : List Ins := [(.aload_n 0, 0, 0, 0), (.iload_n 2, 0, 0, 0)]
theorem k_M_put_9_2 : bok m_M_put 9 b_M_put_9_2 = true := by decide +kernel
def b_M_put_17_2 : List Ins := [(.aload_n 0, 0, 0, 0), (.iload_n 2, 0, 0, 0)]
theorem k_M_put_17_2 : bok m_M_put 17 b_M_put_17_2 = true := by decide +kernel
def b_M_put_22_3 : List Ins := [(.aload_n 0, 0, 0, 0), (.iload_n 1, 0, 0, 0), (.iconst (1), 0, 0, 0)]
theorem k_M_put_22_3 : bok m_M_put 22 b_M_put_22_3 = true := by decide +kernel
def b_M_put_33_12 : List Ins := [(.aload_n 0, 0, 0, 0), (.getfield 9, 11, 0, 2), (.sipush (129), 0, 0, 0), (.iconst (3), 0, 0, 0), (.iload_n 1, 0, 0, 0), (.imul, 0, 0, 0), (.iadd, 0, 0, 0), (.iconst (0), 0, 0, 0), (.iadd, 0, 0, 0), (.iload_n 2, 0, 0, 0), (.iastore, 0, 0, 0), (.iconst (1), 0, 0, 0)]
theorem k_M_put_33_12 : bok m_M_put 33 b_M_put_33_12 = true := by decide +kernel
theorem d_M_put_3 : decode m_M_put.2.1 3 = .ok (.invokevirtual 120, 3) := by decide +kernel
theorem d_M_put_6 : decode m_M_put.2.1 6 = .ok (.ifCond .eq (25), 3) := by decide +kernel
theorem d_M_put_32 : decode m_M_put.2.1 32 = .ok (.ireturn, 1) := by decide +kernel
theorem d_M_put_11 : decode m_M_put.2.1 11 = .ok (.invokevirtual 123, 3) := by decide +kernel
theorem d_M_put_14 : decode m_M_put.2.1 14 = .ok (.ifCond .eq (17), 3) := by decide +kernel
theorem d_M_put_19 : decode m_M_put.2.1 19 = .ok (.invokevirtual 157, 3) := by decide +kernel
theorem d_M_put_25 : decode m_M_put.2.1 25 = .ok (.invokevirtual 270, 3) := by decide +kernel
theorem d_M_put_28 : decode m_M_put.2.1 28 = .ok (.if_icmp .ge (5), 3) := by decide +kernel
theorem d_M_put_49 : decode m_M_put.2.1 49 = .ok (.ireturn, 1) := by decide +kernel
def f_M_put  (S : hs) (x1 : Int32) (x2 : Int32) : Option (Int32 × hs) := bd (f_M_is  S x1 (3 : Int32)) fun r1 S2 => (if r1 = 0 then some ((-1 : Int32), S2) else bd (f_M_isCourse  S2 x2) fun r5 S6 => (if r5 = 0 then some ((-1 : Int32), S6) else bd (f_M_broadOf  S6 x2) fun r9 S10 => bd (f_M_walkerIs  S10 x1 (1 : Int32)) fun r12 S13 => (if r12 ≤ r9 then ck (inb (((129 : Int32) + ((3 : Int32) * x1)) + (0 : Int32)) 358) (some ((1 : Int32), (uI S13 192 ((((129 : Int32) + ((3 : Int32) * x1)) + (0 : Int32))).toNatClampNeg x2))) else some ((-1 : Int32), S13))))
theorem c_M_put (w : Wd) (d : Nat) (c : cx)   (S : hs) (x1 : Int32) (x2 : Int32)  {z : Int32 × hs} (H : f_M_put S x1 x2 = some z) : Cl w (d + 3) m_M_put [.ref 191, .int x1, .int x2] (mk c S) (some (.int z.1)) (mk c z.2) := by
  refine Cl.of (Nat.le_refl _) (Nat.le_refl _) (by decide +kernel) (Nat.le_of_ble_eq_true rfl) ?_
  unfold f_M_put at H
  generalize hN (mk c S) = n0
  generalize hZ (mk c S) = z0
  show J w (d + 3) m_M_put (n0, z0, some (.int z.1), mk c z.2) 0 [some (.ref 191), some (.int x1), some (.int x2)] [] (mk c S)
  refine J.run b_M_put_0_3 k_M_put_0_3 rfl (show J w (d + 3) m_M_put (n0, z0, some (.int z.1), mk c z.2) 3 [some (.ref 191), some (.int x1), some (.int x2)] [.int (3 : Int32), .int x1, .ref 191] (mk c S) from ?_)
  obtain ⟨r1, S2, h3, H⟩ := bd_e H
  refine J.callV (y := m_M_is) (av := [.int x1, .int (3 : Int32)]) (rest := []) (q := 191) l_M_120 d_M_put_3 (isC_st rfl rfl) (c_M_is w (d + 0) c  S x1 (3 : Int32) h3) rfl (Nat.le_of_ble_eq_true rfl) ⟨Nat.le_refl _, Nat.le_refl _⟩ (show J w (d + 3) m_M_put (n0, z0, some (.int z.1), mk c z.2) 6 [some (.ref 191), some (.int x1), some (.int x2)] [.int r1] (mk c S2) from ?_)
  refine J.zeq (tgt := 31) d_M_put_6 rfl (fun q4 => ?_) (fun q4 => ?_)
  · have H := ite_t H q4
    refine J.run b_M_put_31_1 k_M_put_31_1 rfl (show J w (d + 3) m_M_put (n0, z0, some (.int z.1), mk c z.2) 32 [some (.ref 191), some (.int x1), some (.int x2)] [.int (-1 : Int32)] (mk c S2) from ?_)
    obtain rfl := some_e H
    exact J.iret d_M_put_32 rfl rfl
  · have H := ite_f H q4
    refine J.run b_M_put_9_2 k_M_put_9_2 rfl (show J w (d + 3) m_M_put (n0, z0, some (.int z.1), mk c z.2) 11 [some (.ref 191), some (.int x1), some (.int x2)] [.int x2, .ref 191] (mk c S2) from ?_)
    obtain ⟨r5, S6, h7, H⟩ := bd_e H
    refine J.callV (y := m_M_isCourse) (av := [.int x2]) (rest := []) (q := 191) l_M_123 d_M_put_11 (isC_st rfl rfl) (c_M_isCourse w (d + 0) c  S2 x2 h7) rfl (Nat.le_of_ble_eq_true rfl) ⟨Nat.le_refl _, Nat.le_refl _⟩ (show J w (d + 3) m_M_put (n0, z0, some (.int z.1), mk c z.2) 14 [some (.ref 191), some (.int x1), some (.int x2)] [.int r5] (mk c S6) from ?_)
    refine J.zeq (tgt := 31) d_M_put_14 rfl (fun q8 => ?_) (fun q8 => ?_)
    · have H := ite_t H q8
      refine J.run b_M_put_31_1 k_M_put_31_1 rfl (show J w (d + 3) m_M_put (n0, z0, some (.int z.1), mk c z.2) 32 [some (.ref 191), some (.int x1), some (.int x2)] [.int (-1 : Int32)] (mk c S6) from ?_)
      obtain rfl := some_e H
      exact J.iret d_M_put_32 rfl rfl
    · have H := ite_f H q8
      refine J.run b_M_put_17_2 k_M_put_17_2 rfl (show J w (d + 3) m_M_put (n0, z0, some (.int z.1), mk c z.2) 19 [some (.ref 191), some (.int x1), some (.int x2)] [.int x2, .ref 191] (mk c S6) from ?_)
      obtain ⟨r9, S10, h11, H⟩ := bd_e H
      refine J.callV (y := m_M_broadOf) (av := [.int x2]) (rest := []) (q := 191) l_M_157 d_M_put_19 (isC_st rfl rfl) (c_M_broadOf w (d + 0) c  S6 x2 h11) rfl (Nat.le_of_ble_eq_true rfl) ⟨Nat.le_refl _, Nat.le_refl _⟩ (show J w (d + 3) m_M_put (n0, z0, some (.int z.1), mk c z.2) 22 [some (.ref 191), some (.int x1), some (.int x2)] [.int r9] (mk c S10) from ?_)
      refine J.run b_M_put_22_3 k_M_put_22_3 rfl (show J w (d + 3) m_M_put (n0, z0, some (.int z.1), mk c z.2) 25 [some (.ref 191), some (.int x1), some (.int x2)] [.int (1 : Int32), .int x1, .ref 191, .int r9] (mk c S10) from ?_)
      obtain ⟨r12, S13, h14, H⟩ := bd_e H
      refine J.callV (y := m_M_walkerIs) (av := [.int x1, .int (1 : Int32)]) (rest := [.int r9]) (q := 191) l_M_270 d_M_put_25 (isC_st rfl rfl) (c_M_walkerIs w (d + 1) c  S10 x1 (1 : Int32) h14) rfl (Nat.le_of_ble_eq_true rfl) ⟨Nat.le_refl _, Nat.le_refl _⟩ (show J w (d + 3) m_M_put (n0, z0, some (.int z.1), mk c z.2) 28 [some (.ref 191), some (.int x1), some (.int x2)] [.int r12, .int r9] (mk c S13) from ?_)
      refine J.cge (tgt := 33) d_M_put_28 rfl (fun q15 => ?_) (fun q15 => ?_)
      · have H := ite_t H q15
        obtain ⟨g16, H⟩ := ck_e H
        refine J.run b_M_put_33_12 k_M_put_33_12 rfl (And.intro (okO_st (S := S13) rfl) (And.intro (okB_st (S := S13) (n := 358) rfl g16) (show J w (d + 3) m_M_put (n0, z0, some (.int z.1), mk c z.2) 49 [some (.ref 191), some (.int x1), some (.int x2)] [.int (1 : Int32)] (mk c (uI S13 192 ((((129 : Int32) + ((3 : Int32) * x1)) + (0 : Int32))).toNatClampNeg x2)) from ?_)))
        obtain rfl := some_e H
        exact J.iret d_M_put_49 rfl rfl
      · have H := ite_f H q15
        refine J.run b_M_put_31_1 k_M_put_31_1 rfl (show J w (d + 3) m_M_put (n0, z0, some (.int z.1), mk c z.2) 32 [some (.ref 191), some (.int x1), some (.int x2)] [.int (-1 : Int32)] (mk c S13) from ?_)
        obtain rfl := some_e H
        exact J.iret d_M_put_32 rfl rfl
def b_M_findOnto_0_2 : List Ins := [(.iconst (0), 0, 0, 0), (.istore_n 3, 0, 0, 0)]
theorem k_M_findOnto_0_2 : bok m_M_findOnto 0 b_M_findOnto_0_2 = true := by decide +kernel
def b_M_findOnto_2_2 : List Ins := [(.iload_n 3, 0, 0, 0), (.bipush (40), 0, 0, 0)]
theorem k_M_findOnto_2_2 : bok m_M_findOnto 2 b_M_findOnto_2_2 = true := by decide +kernel
def b_M_findOnto_8_7 : List Ins := [(.aload_n 0, 0, 0, 0), (.getfield 68, 11, 18, 2), (.iload_n 3, 0, 0, 0), (.lconst 0, 0, 0, 0), (.lastore, 0, 0, 0), (.iconst (0), 0, 0, 0), (.istore 4, 0, 0, 0)]
theorem k_M_findOnto_8_7 : bok m_M_findOnto 8 b_M_findOnto_8_7 = true := by decide +kernel
def b_M_findOnto_18_2 : List Ins := [(.iload 4, 0, 0, 0), (.bipush (40), 0, 0, 0)]
theorem k_M_findOnto_18_2 : bok m_M_findOnto 18 b_M_findOnto_18_2 = true := by decide +kernel
def b_M_findOnto_25_6 : List Ins := [(.aload_n 0, 0, 0, 0), (.getfield 68, 11, 18, 2), (.iload_n 3, 0, 0, 0), (.dup2, 0, 0, 0), (.laload, 0, 0, 0), (.iload_n 2, 0, 0, 0)]
theorem k_M_findOnto_25_6 : bok m_M_findOnto 25 b_M_findOnto_25_6 = true := by decide +kernel
def b_M_findOnto_49_4 : List Ins := [(.aload_n 0, 0, 0, 0), (.iload_n 3, 0, 0, 0), (.iload 4, 0, 0, 0), (.iload_n 1, 0, 0, 0)]
theorem k_M_findOnto_49_4 : bok m_M_findOnto 49 b_M_findOnto_49_4 = true := by decide +kernel
def b_M_findOnto_67_4 : List Ins := [(.lconst 0, 0, 0, 0), (.lor, 0, 0, 0), (.lastore, 0, 0, 0), (.iinc 4 (1), 0, 0, 0)]
theorem k_M_findOnto_67_4 : bok m_M_findOnto 67 b_M_findOnto_67_4 = true := by decide +kernel
def b_M_findOnto_60_3 : List Ins := [(.lconst 1, 0, 0, 0), (.iload 4, 0, 0, 0), (.lshl, 0, 0, 0)]
theorem k_M_findOnto_60_3 : bok m_M_findOnto 60 b_M_findOnto_60_3 = true := by decide +kernel
def b_M_findOnto_68_3 : List Ins := [(.lor, 0, 0, 0), (.lastore, 0, 0, 0), (.iinc 4 (1), 0, 0, 0)]
theorem k_M_findOnto_68_3 : bok m_M_findOnto 68 b_M_findOnto_68_3 = true := by decide +kernel
def b_M_findOnto_36_3 : List Ins := [(.aload_n 0, 0, 0, 0), (.iload_n 3, 0, 0, 0), (.iload 4, 0, 0, 0)]
theorem k_M_findOnto_36_3 : bok m_M_findOnto 36 b_M_findOnto_36_3 = true := by decide +kernel
def b_M_findOnto_76_1 : List Ins := [(.iinc 3 (1), 0, 0, 0)]
theorem k_M_findOnto_76_1 : bok m_M_findOnto 76 b_M_findOnto_76_1 = true := by decide +kernel
theorem d_M_findOnto_5 : decode m_M_findOnto.2.1 5 = .ok (.if_icmp .ge (77), 3) := by decide +kernel
theorem d_M_findOnto_82 : decode m_M_findOnto.2.1 82 = .ok (.return_, 1) := by decide +kernel
theorem d_M_findOnto_22 : decode m_M_findOnto.2.1 22 = .ok (.if_icmp .ge (54), 3) := by decide +kernel
theorem d_M_findOnto_33 : decode m_M_findOnto.2.1 33 = .ok (.ifCond .eq (16), 3) := by decide +kernel
theorem d_M_findOnto_54 : decode m_M_findOnto.2.1 54 = .ok (.invokevirtual 178, 3) := by decide +kernel
theorem d_M_findOnto_57 : decode m_M_findOnto.2.1 57 = .ok (.ifCond .eq (10), 3) := by decide +kernel
theorem d_M_findOnto_73 : decode m_M_findOnto.2.1 73 = .ok (.goto (-55), 3) := by decide +kernel
theorem d_M_findOnto_64 : decode m_M_findOnto.2.1 64 = .ok (.goto (4), 3) := by decide +kernel
theorem d_M_findOnto_40 : decode m_M_findOnto.2.1 40 = .ok (.invokevirtual 154, 3) := by decide +kernel
theorem d_M_findOnto_43 : decode m_M_findOnto.2.1 43 = .ok (.ifCond .le (24), 3) := by decide +kernel
theorem d_M_findOnto_46 : decode m_M_findOnto.2.1 46 = .ok (.goto (14), 3) := by decide +kernel
theorem d_M_findOnto_79 : decode m_M_findOnto.2.1 79 = .ok (.goto (-77), 3) := by decide +kernel
def lp_M_findOnto_18 (x1 : Int32) (x2 : Int32) (x3 : Int32)  (K0 : hs → Int32 → Option (Int32 × hs)) : Nat → hs → Int32 → Option (Int32 × hs)
  | 0, _, _ => none
  | n + 1, S, x4 => (if (40 : Int32) ≤ x4 then K0 S x4 else ck (inb x3 40) ((if x2 = 0 then bd (f_M_mayGo  S x3 x4 x1) fun r6 S7 => (if r6 = 0 then lp_M_findOnto_18 x1 x2 x3 K0 n (uJ S7 201 (x3).toNatClampNeg ((gJ S 201 (x3).toNatClampNeg) ||| (0 : Int64))) (x4 + (1 : Int32)) else lp_M_findOnto_18 x1 x2 x3 K0 n (uJ S7 201 (x3).toNatClampNeg ((gJ S 201 (x3).toNatClampNeg) ||| ((1 : Int64) <<< (x4.toInt64 &&& 63)))) (x4 + (1 : Int32))) else bd (f_M_kindOf  S x3 x4) fun r10 S11 => (if r10 ≤ 0 then lp_M_findOnto_18 x1 x2 x3 K0 n (uJ S11 201 (x3).toNatClampNeg ((gJ S 201 (x3).toNatClampNeg) ||| (0 : Int64))) (x4 + (1 : Int32)) else lp_M_findOnto_18 x1 x2 x3 K0 n (uJ S11 201 (x3).toNatClampNeg ((gJ S 201 (x3).toNatClampNeg) ||| ((1 : Int64) <<< (x4.toInt64 &&& 63)))) (x4 + (1 : Int32))))))
def lp_M_findOnto_2 (x1 : Int32) (x2 : Int32)   : Nat → hs → Int32 → Option (Int32 × hs)
  | 0, _, _ => none
  | n + 1, S, x3 => (if (40 : Int32) ≤ x3 then some ((0 : Int32), S) else ck (inb x3 40) (lp_M_findOnto_18 x1 x2 x3 (fun (S14 : hs) (y15 : Int32) => lp_M_findOnto_2 x1 x2 n S14 (x3 + (1 : Int32))) 1000 (uJ S 201 (x3).toNatClampNeg (0 : Int64)) (0 : Int32)))
def f_M_findOnto  (S : hs) (x1 : Int32) (x2 : Int32) : Option (Int32 × hs) := lp_M_findOnto_2 x1 x2 1000 S (0 : Int32)
theorem lo_M_findOnto_18 (w : Wd) (d : Nat) (c : cx) {n0 z0 : Nat} {z : Int32 × hs}  {K0 : hs → Int32 → Option (Int32 × hs)} (x1 : Int32) (x2 : Int32) (x3 : Int32)   (hK0 : ∀ (S : hs) (x4 : Int32), K0 S x4 = some z → J w (d + 7) m_M_findOnto (n0, z0, none, mk c z.2) 76 [some (.ref 191), some (.int x1), some (.int x2), some (.int x3), none] [] (mk c S)) :
    ∀ (n : Nat) (S : hs) (x4 : Int32), lp_M_findOnto_18 x1 x2 x3 K0 n S x4 = some z → J w (d + 7) m_M_findOnto (n0, z0, none, mk c z.2) 18 [some (.ref 191), some (.int x1), some (.int x2), some (.int x3), some (.int x4)] [] (mk c S) := by
  intro n
  induction n with
  | zero => intro S x4 H; cases H
  | succ n ih =>
    intro S x4 H
    rw [lp_M_findOnto_18] at H
    refine J.run b_M_findOnto_18_2 k_M_findOnto_18_2 rfl (show J w (d + 7) m_M_findOnto (n0, z0, none, mk c z.2) 22 [some (.ref 191), some (.int x1), some (.int x2), some (.int x3), some (.int x4)] [.int (40 : Int32), .int x4] (mk c S) from ?_)
    refine J.cge (tgt := 76) d_M_findOnto_22 rfl (fun q3 => ?_) (fun q3 => ?_)
    · have H := ite_t H q3
      refine J.mask [true, true, true, true, false] ?_
      exact hK0 S x4 H
    · have H := ite_f H q3
      obtain ⟨g4, H⟩ := ck_e H
      refine J.run b_M_findOnto_25_6 k_M_findOnto_25_6 rfl (And.intro (okO_st (S := S) rfl) (And.intro (okA_st (S := S) (n := 40) rfl g4) (show J w (d + 7) m_M_findOnto (n0, z0, none, mk c z.2) 33 [some (.ref 191), some (.int x1), some (.int x2), some (.int x3), some (.int x4)] [.int x2, .long (gJ S 201 (x3).toNatClampNeg), .int x3, .ref 201] (mk c S) from ?_)))
      refine J.zeq (tgt := 49) d_M_findOnto_33 rfl (fun q5 => ?_) (fun q5 => ?_)
      · have H := ite_t H q5
        refine J.run b_M_findOnto_49_4 k_M_findOnto_49_4 rfl (show J w (d + 7) m_M_findOnto (n0, z0, none, mk c z.2) 54 [some (.ref 191), some (.int x1), some (.int x2), some (.int x3), some (.int x4)] [.int x1, .int x4, .int x3, .ref 191, .long (gJ S 201 (x3).toNatClampNeg), .int x3, .ref 201] (mk c S) from ?_)
        obtain ⟨r6, S7, h8, H⟩ := bd_e H
        refine J.callV (y := m_M_mayGo) (av := [.int x3, .int x4, .int x1]) (rest := [.long (gJ S 201 (x3).toNatClampNeg), .int x3, .ref 201]) (q := 191) l_M_178 d_M_findOnto_54 (isC_st rfl rfl) (c_M_mayGo w (d + 0) c  S x3 x4 x1 h8) rfl (Nat.le_of_ble_eq_true rfl) ⟨Nat.le_refl _, Nat.le_refl _⟩ (show J w (d + 7) m_M_findOnto (n0, z0, none, mk c z.2) 57 [some (.ref 191), some (.int x1), some (.int x2), some (.int x3), some (.int x4)] [.int r6, .long (gJ S 201 (x3).toNatClampNeg), .int x3, .ref 201] (mk c S7) from ?_)
        refine J.zeq (tgt := 67) d_M_findOnto_57 rfl (fun q9 => ?_) (fun q9 => ?_)
        · have H := ite_t H q9
          refine J.run b_M_findOnto_67_4 k_M_findOnto_67_4 rfl (And.intro (okB_st (S := S7) (n := 40) rfl g4) (show J w (d + 7) m_M_findOnto (n0, z0, none, mk c z.2) 73 [some (.ref 191), some (.int x1), some (.int x2), some (.int x3), some (.int (x4 + (1 : Int32)))] [] (mk c (uJ S7 201 (x3).toNatClampNeg ((gJ S 201 (x3).toNatClampNeg) ||| (0 : Int64)))) from ?_))
          refine J.goto (tgt := 18) d_M_findOnto_73 rfl ?_
          refine J.mask [true, true, true, true, true] ?_
          exact ih (uJ S7 201 (x3).toNatClampNeg ((gJ S 201 (x3).toNatClampNeg) ||| (0 : Int64))) (x4 + (1 : Int32)) H
        · have H := ite_f H q9
          refine J.run b_M_findOnto_60_3 k_M_findOnto_60_3 rfl (show J w (d + 7) m_M_findOnto (n0, z0, none, mk c z.2) 64 [some (.ref 191), some (.int x1), some (.int x2), some (.int x3), some (.int x4)] [.long ((1 : Int64) <<< (x4.toInt64 &&& 63)), .long (gJ S 201 (x3).toNatClampNeg), .int x3, .ref 201] (mk c S7) from ?_)
          refine J.goto (tgt := 68) d_M_findOnto_64 rfl ?_
          refine J.run b_M_findOnto_68_3 k_M_findOnto_68_3 rfl (And.intro (okB_st (S := S7) (n := 40) rfl g4) (show J w (d + 7) m_M_findOnto (n0, z0, none, mk c z.2) 73 [some (.ref 191), some (.int x1), some (.int x2), some (.int x3), some (.int (x4 + (1 : Int32)))] [] (mk c (uJ S7 201 (x3).toNatClampNeg ((gJ S 201 (x3).toNatClampNeg) ||| ((1 : Int64) <<< (x4.toInt64 &&& 63))))) from ?_))
          refine J.goto (tgt := 18) d_M_findOnto_73 rfl ?_
          refine J.mask [true, true, true, true, true] ?_
          exact ih (uJ S7 201 (x3).toNatClampNeg ((gJ S 201 (x3).toNatClampNeg) ||| ((1 : Int64) <<< (x4.toInt64 &&& 63)))) (x4 + (1 : Int32)) H
      · have H := ite_f H q5
        refine J.run b_M_findOnto_36_3 k_M_findOnto_36_3 rfl (show J w (d + 7) m_M_findOnto (n0, z0, none, mk c z.2) 40 [some (.ref 191), some (.int x1), some (.int x2), some (.int x3), some (.int x4)] [.int x4, .int x3, .ref 191, .long (gJ S 201 (x3).toNatClampNeg), .int x3, .ref 201] (mk c S) from ?_)
        obtain ⟨r10, S11, h12, H⟩ := bd_e H
        refine J.callV (y := m_M_kindOf) (av := [.int x3, .int x4]) (rest := [.long (gJ S 201 (x3).toNatClampNeg), .int x3, .ref 201]) (q := 191) l_M_154 d_M_findOnto_40 (isC_st rfl rfl) (c_M_kindOf w (d + 3) c  S x3 x4 h12) rfl (Nat.le_of_ble_eq_true rfl) ⟨Nat.le_refl _, Nat.le_refl _⟩ (show J w (d + 7) m_M_findOnto (n0, z0, none, mk c z.2) 43 [some (.ref 191), some (.int x1), some (.int x2), some (.int x3), some (.int x4)] [.int r10, .long (gJ S 201 (x3).toNatClampNeg), .int x3, .ref 201] (mk c S11) from ?_)
        refine J.zle (tgt := 67) d_M_findOnto_43 rfl (fun q13 => ?_) (fun q13 => ?_)
        · have H := ite_t H q13
          refine J.run b_M_findOnto_67_4 k_M_findOnto_67_4 rfl (And.intro (okB_st (S := S11) (n := 40) rfl g4) (show J w (d + 7) m_M_findOnto (n0, z0, none, mk c z.2) 73 [some (.ref 191), some (.int x1), some (.int x2), some (.int x3), some (.int (x4 + (1 : Int32)))] [] (mk c (uJ S11 201 (x3).toNatClampNeg ((gJ S 201 (x3).toNatClampNeg) ||| (0 : Int64)))) from ?_))
          refine J.goto (tgt := 18) d_M_findOnto_73 rfl ?_
          refine J.mask [true, true, true, true, true] ?_
          exact ih (uJ S11 201 (x3).toNatClampNeg ((gJ S 201 (x3).toNatClampNeg) ||| (0 : Int64))) (x4 + (1 : Int32)) H
        · have H := ite_f H q13
          refine J.goto (tgt := 60) d_M_findOnto_46 rfl ?_
          refine J.run b_M_findOnto_60_3 k_M_findOnto_60_3 rfl (show J w (d + 7) m_M_findOnto (n0, z0, none, mk c z.2) 64 [some (.ref 191), some (.int x1), some (.int x2), some (.int x3), some (.int x4)] [.long ((1 : Int64) <<< (x4.toInt64 &&& 63)), .long (gJ S 201 (x3).toNatClampNeg), .int x3, .ref 201] (mk c S11) from ?_)
          refine J.goto (tgt := 68) d_M_findOnto_64 rfl ?_
          refine J.run b_M_findOnto_68_3 k_M_findOnto_68_3 rfl (And.intro (okB_st (S := S11) (n := 40) rfl g4) (show J w (d + 7) m_M_findOnto (n0, z0, none, mk c z.2) 73 [some (.ref 191), some (.int x1), some (.int x2), some (.int x3), some (.int (x4 + (1 : Int32)))] [] (mk c (uJ S11 201 (x3).toNatClampNeg ((gJ S 201 (x3).toNatClampNeg) ||| ((1 : Int64) <<< (x4.toInt64 &&& 63))))) from ?_))
          refine J.goto (tgt := 18) d_M_findOnto_73 rfl ?_
          refine J.mask [true, true, true, true, true] ?_
          exact ih (uJ S11 201 (x3).toNatClampNeg ((gJ S 201 (x3).toNatClampNeg) ||| ((1 : Int64) <<< (x4.toInt64 &&& 63)))) (x4 + (1 : Int32)) H
theorem lo_M_findOnto_2 (w : Wd) (d : Nat) (c : cx) {n0 z0 : Nat} {z : Int32 × hs}   (x1 : Int32) (x2 : Int32)    :
    ∀ (n : Nat) (S : hs) (x3 : Int32), lp_M_findOnto_2 x1 x2 n S x3 = some z → J w (d + 7) m_M_findOnto (n0, z0, none, mk c z.2) 2 [some (.ref 191), some (.int x1), some (.int x2), some (.int x3), none] [] (mk c S) := by
  intro n
  induction n with
  | zero => intro S x3 H; cases H
  | succ n ih =>
    intro S x3 H
    rw [lp_M_findOnto_2] at H
    refine J.run b_M_findOnto_2_2 k_M_findOnto_2_2 rfl (show J w (d + 7) m_M_findOnto (n0, z0, none, mk c z.2) 5 [some (.ref 191), some (.int x1), some (.int x2), some (.int x3), none] [.int (40 : Int32), .int x3] (mk c S) from ?_)
    refine J.cge (tgt := 82) d_M_findOnto_5 rfl (fun q1 => ?_) (fun q1 => ?_)
    · have H := ite_t H q1
      obtain rfl := some_e H
      exact J.vret d_M_findOnto_82 rfl rfl
    · have H := ite_f H q1
      obtain ⟨g2, H⟩ := ck_e H
      refine J.run b_M_findOnto_8_7 k_M_findOnto_8_7 rfl (And.intro (okO_st (S := S) rfl) (And.intro (okB_st (S := S) (n := 40) rfl g2) (show J w (d + 7) m_M_findOnto (n0, z0, none, mk c z.2) 18 [some (.ref 191), some (.int x1), some (.int x2), some (.int x3), some (.int (0 : Int32))] [] (mk c (uJ S 201 (x3).toNatClampNeg (0 : Int64))) from ?_)))
      refine J.mask [true, true, true, true, true] ?_
      refine lo_M_findOnto_18 w d c x1 x2 x3 ?_ 1000 (uJ S 201 (x3).toNatClampNeg (0 : Int64)) (0 : Int32) H
      · intro S14 y15 H
        try dsimp only at H
        refine J.run b_M_findOnto_76_1 k_M_findOnto_76_1 rfl (show J w (d + 7) m_M_findOnto (n0, z0, none, mk c z.2) 79 [some (.ref 191), some (.int x1), some (.int x2), some (.int (x3 + (1 : Int32))), none] [] (mk c S14) from ?_)
        refine J.goto (tgt := 2) d_M_findOnto_79 rfl ?_
        refine J.mask [true, true, true, true, false] ?_
        exact ih S14 (x3 + (1 : Int32)) H
theorem c_M_findOnto (w : Wd) (d : Nat) (c : cx)   (S : hs) (x1 : Int32) (x2 : Int32)  {z : Int32 × hs} (H : f_M_findOnto S x1 x2 = some z) : Cl w (d + 7) m_M_findOnto [.ref 191, .int x1, .int x2] (mk c S) (none) (mk c z.2) := by
  refine Cl.of (Nat.le_refl _) (Nat.le_refl _) (by decide +kernel) (Nat.le_of_ble_eq_true rfl) ?_
  unfold f_M_findOnto at H
  generalize hN (mk c S) = n0
  generalize hZ (mk c S) = z0
  show J w (d + 7) m_M_findOnto (n0, z0, none, mk c z.2) 0 [some (.ref 191), some (.int x1), some (.int x2), none, none] [] (mk c S)
  refine J.run b_M_findOnto_0_2 k_M_findOnto_0_2 rfl (show J w (d + 7) m_M_findOnto (n0, z0, none, mk c z.2) 2 [some (.ref 191), some (.int x1), some (.int x2), some (.int (0 : Int32)), none] [] (mk c S) from ?_)
  refine J.mask [true, true, true, true, false] ?_
  refine lo_M_findOnto_2 w d c x1 x2  1000 S (0 : Int32) H
def b_M_findFar_0_2 : List Ins := [(.iconst (0), 0, 0, 0), (.istore_n 2, 0, 0, 0)]
theorem k_M_findFar_0_2 : bok m_M_findFar 0 b_M_findFar_0_2 = true := by decide +kernel
def b_M_findFar_2_2 : List Ins := [(.iload_n 2, 0, 0, 0), (.bipush (40), 0, 0, 0)]
theorem k_M_findFar_2_2 : bok m_M_findFar 2 b_M_findFar_2_2 = true := by decide +kernel
def b_M_findFar_8_5 : List Ins := [(.aload_n 0, 0, 0, 0), (.getfield 72, 11, 19, 2), (.iload_n 2, 0, 0, 0), (.iload_n 2, 0, 0, 0), (.iload_n 1, 0, 0, 0)]
theorem k_M_findFar_8_5 : bok m_M_findFar 8 b_M_findFar_8_5 = true := by decide +kernel
def b_M_findFar_22_3 : List Ins := [(.ldc_w 273, 0, 100000, 0), (.iastore, 0, 0, 0), (.iinc 2 (1), 0, 0, 0)]
theorem k_M_findFar_22_3 : bok m_M_findFar 22 b_M_findFar_22_3 = true := by decide +kernel
def b_M_findFar_18_1 : List Ins := [(.iconst (0), 0, 0, 0)]
theorem k_M_findFar_18_1 : bok m_M_findFar 18 b_M_findFar_18_1 = true := by decide +kernel
def b_M_findFar_25_2 : List Ins := [(.iastore, 0, 0, 0), (.iinc 2 (1), 0, 0, 0)]
theorem k_M_findFar_25_2 : bok m_M_findFar 25 b_M_findFar_25_2 = true := by decide +kernel
def b_M_findFar_32_2 : List Ins := [(.iconst (1), 0, 0, 0), (.istore_n 2, 0, 0, 0)]
theorem k_M_findFar_32_2 : bok m_M_findFar 32 b_M_findFar_32_2 = true := by decide +kernel
def b_M_findFar_34_1 : List Ins := [(.iload_n 2, 0, 0, 0)]
theorem k_M_findFar_34_1 : bok m_M_findFar 34 b_M_findFar_34_1 = true := by decide +kernel
def b_M_findFar_38_4 : List Ins := [(.iconst (0), 0, 0, 0), (.istore_n 2, 0, 0, 0), (.iconst (0), 0, 0, 0), (.istore_n 3, 0, 0, 0)]
theorem k_M_findFar_38_4 : bok m_M_findFar 38 b_M_findFar_38_4 = true := by decide +kernel
def b_M_findFar_42_2 : List Ins := [(.iload_n 3, 0, 0, 0), (.bipush (40), 0, 0, 0)]
theorem k_M_findFar_42_2 : bok m_M_findFar 42 b_M_findFar_42_2 = true := by decide +kernel
def b_M_findFar_48_2 : List Ins := [(.iconst (0), 0, 0, 0), (.istore 4, 0, 0, 0)]
theorem k_M_findFar_48_2 : bok m_M_findFar 48 b_M_findFar_48_2 = true := by decide +kernel
def b_M_findFar_51_2 : List Ins := [(.iload 4, 0, 0, 0), (.bipush (40), 0, 0, 0)]
theorem k_M_findFar_51_2 : bok m_M_findFar 51 b_M_findFar_51_2 = true := by decide +kernel
def b_M_findFar_58_5 : List Ins := [(.aload_n 0, 0, 0, 0), (.getfield 72, 11, 19, 2), (.iload_n 3, 0, 0, 0), (.iaload, 0, 0, 0), (.ldc_w 273, 0, 100000, 0)]
theorem k_M_findFar_58_5 : bok m_M_findFar 58 b_M_findFar_58_5 = true := by decide +kernel
def b_M_findFar_70_5 : List Ins := [(.aload_n 0, 0, 0, 0), (.getfield 68, 11, 18, 2), (.iload_n 3, 0, 0, 0), (.laload, 0, 0, 0), (.iload 4, 0, 0, 0)]
theorem k_M_findFar_70_5 : bok m_M_findFar 70 b_M_findFar_70_5 = true := by decide +kernel
def b_M_findFar_133_1 : List Ins := [(.iinc 4 (1), 0, 0, 0)]
theorem k_M_findFar_133_1 : bok m_M_findFar 133 b_M_findFar_133_1 = true := by decide +kernel
def b_M_findFar_84_8 : List Ins := [(.aload_n 0, 0, 0, 0), (.getfield 72, 11, 19, 2), (.iload_n 3, 0, 0, 0), (.iaload, 0, 0, 0), (.aload_n 0, 0, 0, 0), (.iload 4, 0, 0, 0), (.iconst (2), 0, 0, 0), (.idiv, 0, 0, 0)]
theorem k_M_findFar_84_8 : bok m_M_findFar 84 b_M_findFar_84_8 = true := by decide +kernel
def b_M_findFar_98_5 : List Ins := [(.iadd, 0, 0, 0), (.aload_n 0, 0, 0, 0), (.getfield 72, 11, 19, 2), (.iload 4, 0, 0, 0), (.iaload, 0, 0, 0)]
theorem k_M_findFar_98_5 : bok m_M_findFar 98 b_M_findFar_98_5 = true := by decide +kernel
def b_M_findFar_109_11 : List Ins := [(.aload_n 0, 0, 0, 0), (.getfield 72, 11, 19, 2), (.iload 4, 0, 0, 0), (.aload_n 0, 0, 0, 0), (.getfield 72, 11, 19, 2), (.iload_n 3, 0, 0, 0), (.iaload, 0, 0, 0), (.aload_n 0, 0, 0, 0), (.iload 4, 0, 0, 0), (.iconst (2), 0, 0, 0), (.idiv, 0, 0, 0)]
theorem k_M_findFar_109_11 : bok m_M_findFar 109 b_M_findFar_109_11 = true := by decide +kernel
def b_M_findFar_129_5 : List Ins := [(.iadd, 0, 0, 0), (.iastore, 0, 0, 0), (.iconst (1), 0, 0, 0), (.istore_n 2, 0, 0, 0), (.iinc 4 (1), 0, 0, 0)]
theorem k_M_findFar_129_5 : bok m_M_findFar 129 b_M_findFar_129_5 = true := by decide +kernel
def b_M_findFar_139_1 : List Ins := [(.iinc 3 (1), 0, 0, 0)]
theorem k_M_findFar_139_1 : bok m_M_findFar 139 b_M_findFar_139_1 = true := by decide +kernel
theorem d_M_findFar_5 : decode m_M_findFar.2.1 5 = .ok (.if_icmp .ge (27), 3) := by decide +kernel
theorem d_M_findFar_15 : decode m_M_findFar.2.1 15 = .ok (.if_icmp .ne (7), 3) := by decide +kernel
theorem d_M_findFar_29 : decode m_M_findFar.2.1 29 = .ok (.goto (-27), 3) := by decide +kernel
theorem d_M_findFar_19 : decode m_M_findFar.2.1 19 = .ok (.goto (6), 3) := by decide +kernel
theorem d_M_findFar_35 : decode m_M_findFar.2.1 35 = .ok (.ifCond .eq (113), 3) := by decide +kernel
theorem d_M_findFar_148 : decode m_M_findFar.2.1 148 = .ok (.return_, 1) := by decide +kernel
theorem d_M_findFar_45 : decode m_M_findFar.2.1 45 = .ok (.if_icmp .ge (100), 3) := by decide +kernel
theorem d_M_findFar_55 : decode m_M_findFar.2.1 55 = .ok (.if_icmp .ge (84), 3) := by decide +kernel
theorem d_M_findFar_67 : decode m_M_findFar.2.1 67 = .ok (.if_icmp .ge (72), 3) := by decide +kernel
theorem d_M_findFar_78 : decode m_M_findFar.2.1 78 = .ok (.invokestatic 160, 3) := by decide +kernel
theorem d_M_findFar_81 : decode m_M_findFar.2.1 81 = .ok (.ifCond .eq (52), 3) := by decide +kernel
theorem d_M_findFar_136 : decode m_M_findFar.2.1 136 = .ok (.goto (-85), 3) := by decide +kernel
theorem d_M_findFar_95 : decode m_M_findFar.2.1 95 = .ok (.invokevirtual 142, 3) := by decide +kernel
theorem d_M_findFar_106 : decode m_M_findFar.2.1 106 = .ok (.if_icmp .ge (27), 3) := by decide +kernel
theorem d_M_findFar_126 : decode m_M_findFar.2.1 126 = .ok (.invokevirtual 142, 3) := by decide +kernel
theorem d_M_findFar_142 : decode m_M_findFar.2.1 142 = .ok (.goto (-100), 3) := by decide +kernel
theorem d_M_findFar_145 : decode m_M_findFar.2.1 145 = .ok (.goto (-111), 3) := by decide +kernel
def lp_M_findFar_2 (x1 : Int32)  (K0 : hs → Int32 → Option (Int32 × hs)) : Nat → hs → Int32 → Option (Int32 × hs)
  | 0, _, _ => none
  | n + 1, S, x2 => (if (40 : Int32) ≤ x2 then K0 S x2 else (if x2 = x1 then ck (inb x2 40) (lp_M_findFar_2 x1 K0 n (uI S 202 (x2).toNatClampNeg (0 : Int32)) (x2 + (1 : Int32))) else ck (inb x2 40) (lp_M_findFar_2 x1 K0 n (uI S 202 (x2).toNatClampNeg (100000 : Int32)) (x2 + (1 : Int32)))))
def lp_M_findFar_51 (x3 : Int32)  (K0 : hs → Int32 → Int32 → Option (Int32 × hs)) : Nat → hs → Int32 → Int32 → Option (Int32 × hs)
  | 0, _, _, _ => none
  | n + 1, S, x2, x4 => (if (40 : Int32) ≤ x4 then K0 S x2 x4 else ck (inb x3 40) ((if (100000 : Int32) ≤ (gI S 202 (x3).toNatClampNeg) then K0 S x2 x4 else bd (f_M_hasBit  S (gJ S 201 (x3).toNatClampNeg) x4) fun r12 S13 => (if r12 = 0 then lp_M_findFar_51 x3 K0 n S13 x2 (x4 + (1 : Int32)) else bd (f_M_longOf  S13 (x4 / (2 : Int32))) fun r16 S17 => ck (inb x4 40) ((if (gI S17 202 (x4).toNatClampNeg) ≤ ((gI S13 202 (x3).toNatClampNeg) + r16) then lp_M_findFar_51 x3 K0 n S17 x2 (x4 + (1 : Int32)) else bd (f_M_longOf  S17 (x4 / (2 : Int32))) fun r21 S22 => lp_M_findFar_51 x3 K0 n (uI S22 202 (x4).toNatClampNeg ((gI S17 202 (x3).toNatClampNeg) + r21)) (1 : Int32) (x4 + (1 : Int32))))))))
def lp_M_findFar_42   (K0 : hs → Int32 → Int32 → Option (Int32 × hs)) : Nat → hs → Int32 → Int32 → Option (Int32 × hs)
  | 0, _, _, _ => none
  | n + 1, S, x2, x3 => (if (40 : Int32) ≤ x3 then K0 S x2 x3 else lp_M_findFar_51 x3 (fun (S24 : hs) (y25 : Int32) (y26 : Int32) => lp_M_findFar_42 K0 n S24 y25 (x3 + (1 : Int32))) 1000 S x2 (0 : Int32))
def lp_M_findFar_34    : Nat → hs → Int32 → Option (Int32 × hs)
  | 0, _, _ => none
  | n + 1, S, x2 => (if x2 = 0 then some ((0 : Int32), S) else lp_M_findFar_42 (fun (S27 : hs) (y28 : Int32) (y29 : Int32) => lp_M_findFar_34  n S27 y28) 1000 S (0 : Int32) (0 : Int32))
def f_M_findFar  (S : hs) (x1 : Int32) : Option (Int32 × hs) := lp_M_findFar_2 x1 (fun (S5 : hs) (y6 : Int32) => lp_M_findFar_34  1000 S5 (1 : Int32)) 1000 S (0 : Int32)
theorem lo_M_findFar_2 (w : Wd) (d : Nat) (c : cx) {n0 z0 : Nat} {z : Int32 × hs}  {K0 : hs → Int32 → Option (Int32 × hs)} (x1 : Int32)   (hK0 : ∀ (S : hs) (x2 : Int32), K0 S x2 = some z → J w (d + 3) m_M_findFar (n0, z0, none, mk c z.2) 32 [some (.ref 191), none, none, none, none] [] (mk c S)) :
    ∀ (n : Nat) (S : hs) (x2 : Int32), lp_M_findFar_2 x1 K0 n S x2 = some z → J w (d + 3) m_M_findFar (n0, z0, none, mk c z.2) 2 [some (.ref 191), some (.int x1), some (.int x2), none, none] [] (mk c S) := by
  intro n
  induction n with
  | zero => intro S x2 H; cases H
  | succ n ih =>
    intro S x2 H
    rw [lp_M_findFar_2] at H
    refine J.run b_M_findFar_2_2 k_M_findFar_2_2 rfl (show J w (d + 3) m_M_findFar (n0, z0, none, mk c z.2) 5 [some (.ref 191), some (.int x1), some (.int x2), none, none] [.int (40 : Int32), .int x2] (mk c S) from ?_)
    refine J.cge (tgt := 32) d_M_findFar_5 rfl (fun q1 => ?_) (fun q1 => ?_)
    · have H := ite_t H q1
      refine J.mask [true, false, false, false, false] ?_
      exact hK0 S x2 H
    · have H := ite_f H q1
      refine J.run b_M_findFar_8_5 k_M_findFar_8_5 rfl (And.intro (okO_st (S := S) rfl) (show J w (d + 3) m_M_findFar (n0, z0, none, mk c z.2) 15 [some (.ref 191), some (.int x1), some (.int x2), none, none] [.int x1, .int x2, .int x2, .ref 202] (mk c S) from ?_))
      refine J.cne (tgt := 22) d_M_findFar_15 rfl (fun q2 => ?_) (fun q2 => ?_)
      · have H := ite_f H q2
        obtain ⟨g3, H⟩ := ck_e H
        refine J.run b_M_findFar_22_3 k_M_findFar_22_3 rfl (And.intro (okB_st (S := S) (n := 40) rfl g3) (show J w (d + 3) m_M_findFar (n0, z0, none, mk c z.2) 29 [some (.ref 191), some (.int x1), some (.int (x2 + (1 : Int32))), none, none] [] (mk c (uI S 202 (x2).toNatClampNeg (100000 : Int32))) from ?_))
        refine J.goto (tgt := 2) d_M_findFar_29 rfl ?_
        refine J.mask [true, true, true, false, false] ?_
        exact ih (uI S 202 (x2).toNatClampNeg (100000 : Int32)) (x2 + (1 : Int32)) H
      · have H := ite_t H q2
        refine J.run b_M_findFar_18_1 k_M_findFar_18_1 rfl (show J w (d + 3) m_M_findFar (n0, z0, none, mk c z.2) 19 [some (.ref 191), some (.int x1), some (.int x2), none, none] [.int (0 : Int32), .int x2, .ref 202] (mk c S) from ?_)
        refine J.goto (tgt := 25) d_M_findFar_19 rfl ?_
        obtain ⟨g4, H⟩ := ck_e H
        refine J.run b_M_findFar_25_2 k_M_findFar_25_2 rfl (And.intro (okB_st (S := S) (n := 40) rfl g4) (show J w (d + 3) m_M_findFar (n0, z0, none, mk c z.2) 29 [some (.ref 191), some (.int x1), some (.int (x2 + (1 : Int32))), none, none] [] (mk c (uI S 202 (x2).toNatClampNeg (0 : Int32))) from ?_))
        refine J.goto (tgt := 2) d_M_findFar_29 rfl ?_
        refine J.mask [true, true, true, false, false] ?_
        exact ih (uI S 202 (x2).toNatClampNeg (0 : Int32)) (x2 + (1 : Int32)) H
theorem lo_M_findFar_51 (w : Wd) (d : Nat) (c : cx) {n0 z0 : Nat} {z : Int32 × hs}  {K0 : hs → Int32 → Int32 → Option (Int32 × hs)} (x3 : Int32)   (hK0 : ∀ (S : hs) (x2 : Int32) (x4 : Int32), K0 S x2 x4 = some z → J w (d + 3) m_M_findFar (n0, z0, none, mk c z.2) 139 [some (.ref 191), none, some (.int x2), some (.int x3), none] [] (mk c S)) :
    ∀ (n : Nat) (S : hs) (x2 : Int32) (x4 : Int32), lp_M_findFar_51 x3 K0 n S x2 x4 = some z → J w (d + 3) m_M_findFar (n0, z0, none, mk c z.2) 51 [some (.ref 191), none, some (.int x2), some (.int x3), some (.int x4)] [] (mk c S) := by
  intro n
  induction n with
  | zero => intro S x2 x4 H; cases H
  | succ n ih =>
    intro S x2 x4 H
    rw [lp_M_findFar_51] at H
    refine J.run b_M_findFar_51_2 k_M_findFar_51_2 rfl (show J w (d + 3) m_M_findFar (n0, z0, none, mk c z.2) 55 [some (.ref 191), none, some (.int x2), some (.int x3), some (.int x4)] [.int (40 : Int32), .int x4] (mk c S) from ?_)
    refine J.cge (tgt := 139) d_M_findFar_55 rfl (fun q9 => ?_) (fun q9 => ?_)
    · have H := ite_t H q9
      refine J.mask [true, false, true, true, false] ?_
      exact hK0 S x2 x4 H
    · have H := ite_f H q9
      obtain ⟨g10, H⟩ := ck_e H
      refine J.run b_M_findFar_58_5 k_M_findFar_58_5 rfl (And.intro (okO_st (S := S) rfl) (And.intro (okA_st (S := S) (n := 40) rfl g10) (show J w (d + 3) m_M_findFar (n0, z0, none, mk c z.2) 67 [some (.ref 191), none, some (.int x2), some (.int x3), some (.int x4)] [.int (100000 : Int32), .int (gI S 202 (x3).toNatClampNeg)] (mk c S) from ?_)))
      refine J.cge (tgt := 139) d_M_findFar_67 rfl (fun q11 => ?_) (fun q11 => ?_)
      · have H := ite_t H q11
        refine J.mask [true, false, true, true, false] ?_
        exact hK0 S x2 x4 H
      · have H := ite_f H q11
        refine J.run b_M_findFar_70_5 k_M_findFar_70_5 rfl (And.intro (okO_st (S := S) rfl) (And.intro (okA_st (S := S) (n := 40) rfl g10) (show J w (d + 3) m_M_findFar (n0, z0, none, mk c z.2) 78 [some (.ref 191), none, some (.int x2), some (.int x3), some (.int x4)] [.int x4, .long (gJ S 201 (x3).toNatClampNeg)] (mk c S) from ?_)))
        obtain ⟨r12, S13, h14, H⟩ := bd_e H
        refine J.callS (y := m_M_hasBit) (av := [.long (gJ S 201 (x3).toNatClampNeg), .int x4]) (rest := []) l_M_160 d_M_findFar_78 (c_M_hasBit w (d + 1) c  S (gJ S 201 (x3).toNatClampNeg) x4 h14) rfl (Nat.le_of_ble_eq_true rfl) ⟨Nat.le_refl _, Nat.le_refl _⟩ (show J w (d + 3) m_M_findFar (n0, z0, none, mk c z.2) 81 [some (.ref 191), none, some (.int x2), some (.int x3), some (.int x4)] [.int r12] (mk c S13) from ?_)
        refine J.zeq (tgt := 133) d_M_findFar_81 rfl (fun q15 => ?_) (fun q15 => ?_)
        · have H := ite_t H q15
          refine J.run b_M_findFar_133_1 k_M_findFar_133_1 rfl (show J w (d + 3) m_M_findFar (n0, z0, none, mk c z.2) 136 [some (.ref 191), none, some (.int x2), some (.int x3), some (.int (x4 + (1 : Int32)))] [] (mk c S13) from ?_)
          refine J.goto (tgt := 51) d_M_findFar_136 rfl ?_
          refine J.mask [true, false, true, true, true] ?_
          exact ih S13 x2 (x4 + (1 : Int32)) H
        · have H := ite_f H q15
          refine J.run b_M_findFar_84_8 k_M_findFar_84_8 rfl (And.intro (okO_st (S := S13) rfl) (And.intro (okA_st (S := S13) (n := 40) rfl g10) (And.intro (by decide) (show J w (d + 3) m_M_findFar (n0, z0, none, mk c z.2) 95 [some (.ref 191), none, some (.int x2), some (.int x3), some (.int x4)] [.int (x4 / (2 : Int32)), .ref 191, .int (gI S13 202 (x3).toNatClampNeg)] (mk c S13) from ?_))))
          obtain ⟨r16, S17, h18, H⟩ := bd_e H
          refine J.callV (y := m_M_longOf) (av := [.int (x4 / (2 : Int32))]) (rest := [.int (gI S13 202 (x3).toNatClampNeg)]) (q := 191) l_M_142 d_M_findFar_95 (isC_st rfl rfl) (c_M_longOf w (d + 0) c  S13 (x4 / (2 : Int32)) h18) rfl (Nat.le_of_ble_eq_true rfl) ⟨Nat.le_refl _, Nat.le_refl _⟩ (show J w (d + 3) m_M_findFar (n0, z0, none, mk c z.2) 98 [some (.ref 191), none, some (.int x2), some (.int x3), some (.int x4)] [.int r16, .int (gI S13 202 (x3).toNatClampNeg)] (mk c S17) from ?_)
          obtain ⟨g19, H⟩ := ck_e H
          refine J.run b_M_findFar_98_5 k_M_findFar_98_5 rfl (And.intro (okO_st (S := S17) rfl) (And.intro (okA_st (S := S17) (n := 40) rfl g19) (show J w (d + 3) m_M_findFar (n0, z0, none, mk c z.2) 106 [some (.ref 191), none, some (.int x2), some (.int x3), some (.int x4)] [.int (gI S17 202 (x4).toNatClampNeg), .int ((gI S13 202 (x3).toNatClampNeg) + r16)] (mk c S17) from ?_)))
          refine J.cge (tgt := 133) d_M_findFar_106 rfl (fun q20 => ?_) (fun q20 => ?_)
          · have H := ite_t H q20
            refine J.run b_M_findFar_133_1 k_M_findFar_133_1 rfl (show J w (d + 3) m_M_findFar (n0, z0, none, mk c z.2) 136 [some (.ref 191), none, some (.int x2), some (.int x3), some (.int (x4 + (1 : Int32)))] [] (mk c S17) from ?_)
            refine J.goto (tgt := 51) d_M_findFar_136 rfl ?_
            refine J.mask [true, false, true, true, true] ?_
            exact ih S17 x2 (x4 + (1 : Int32)) H
          · have H := ite_f H q20
            refine J.run b_M_findFar_109_11 k_M_findFar_109_11 rfl (And.intro (okO_st (S := S17) rfl) (And.intro (okO_st (S := S17) rfl) (And.intro (okA_st (S := S17) (n := 40) rfl g10) (And.intro (by decide) (show J w (d + 3) m_M_findFar (n0, z0, none, mk c z.2) 126 [some (.ref 191), none, some (.int x2), some (.int x3), some (.int x4)] [.int (x4 / (2 : Int32)), .ref 191, .int (gI S17 202 (x3).toNatClampNeg), .int x4, .ref 202] (mk c S17) from ?_)))))
            obtain ⟨r21, S22, h23, H⟩ := bd_e H
            refine J.callV (y := m_M_longOf) (av := [.int (x4 / (2 : Int32))]) (rest := [.int (gI S17 202 (x3).toNatClampNeg), .int x4, .ref 202]) (q := 191) l_M_142 d_M_findFar_126 (isC_st rfl rfl) (c_M_longOf w (d + 0) c  S17 (x4 / (2 : Int32)) h23) rfl (Nat.le_of_ble_eq_true rfl) ⟨Nat.le_refl _, Nat.le_refl _⟩ (show J w (d + 3) m_M_findFar (n0, z0, none, mk c z.2) 129 [some (.ref 191), none, some (.int x2), some (.int x3), some (.int x4)] [.int r21, .int (gI S17 202 (x3).toNatClampNeg), .int x4, .ref 202] (mk c S22) from ?_)
            refine J.run b_M_findFar_129_5 k_M_findFar_129_5 rfl (And.intro (okB_st (S := S22) (n := 40) rfl g19) (show J w (d + 3) m_M_findFar (n0, z0, none, mk c z.2) 136 [some (.ref 191), none, some (.int (1 : Int32)), some (.int x3), some (.int (x4 + (1 : Int32)))] [] (mk c (uI S22 202 (x4).toNatClampNeg ((gI S17 202 (x3).toNatClampNeg) + r21))) from ?_))
            refine J.goto (tgt := 51) d_M_findFar_136 rfl ?_
            refine J.mask [true, false, true, true, true] ?_
            exact ih (uI S22 202 (x4).toNatClampNeg ((gI S17 202 (x3).toNatClampNeg) + r21)) (1 : Int32) (x4 + (1 : Int32)) H
theorem lo_M_findFar_42 (w : Wd) (d : Nat) (c : cx) {n0 z0 : Nat} {z : Int32 × hs}  {K0 : hs → Int32 → Int32 → Option (Int32 × hs)}    (hK0 : ∀ (S : hs) (x2 : Int32) (x3 : Int32), K0 S x2 x3 = some z → J w (d + 3) m_M_findFar (n0, z0, none, mk c z.2) 145 [some (.ref 191), none, some (.int x2), none, none] [] (mk c S)) :
    ∀ (n : Nat) (S : hs) (x2 : Int32) (x3 : Int32), lp_M_findFar_42 K0 n S x2 x3 = some z → J w (d + 3) m_M_findFar (n0, z0, none, mk c z.2) 42 [some (.ref 191), none, some (.int x2), some (.int x3), none] [] (mk c S) := by
  intro n
  induction n with
  | zero => intro S x2 x3 H; cases H
  | succ n ih =>
    intro S x2 x3 H
    rw [lp_M_findFar_42] at H
    refine J.run b_M_findFar_42_2 k_M_findFar_42_2 rfl (show J w (d + 3) m_M_findFar (n0, z0, none, mk c z.2) 45 [some (.ref 191), none, some (.int x2), some (.int x3), none] [.int (40 : Int32), .int x3] (mk c S) from ?_)
    refine J.cge (tgt := 145) d_M_findFar_45 rfl (fun q8 => ?_) (fun q8 => ?_)
    · have H := ite_t H q8
      refine J.mask [true, false, true, false, false] ?_
      exact hK0 S x2 x3 H
    · have H := ite_f H q8
      refine J.run b_M_findFar_48_2 k_M_findFar_48_2 rfl (show J w (d + 3) m_M_findFar (n0, z0, none, mk c z.2) 51 [some (.ref 191), none, some (.int x2), some (.int x3), some (.int (0 : Int32))] [] (mk c S) from ?_)
      refine J.mask [true, false, true, true, true] ?_
      refine lo_M_findFar_51 w d c x3 ?_ 1000 S x2 (0 : Int32) H
      · intro S24 y25 y26 H
        try dsimp only at H
        refine J.run b_M_findFar_139_1 k_M_findFar_139_1 rfl (show J w (d + 3) m_M_findFar (n0, z0, none, mk c z.2) 142 [some (.ref 191), none, some (.int y25), some (.int (x3 + (1 : Int32))), none] [] (mk c S24) from ?_)
        refine J.goto (tgt := 42) d_M_findFar_142 rfl ?_
        refine J.mask [true, false, true, true, false] ?_
        exact ih S24 y25 (x3 + (1 : Int32)) H
theorem lo_M_findFar_34 (w : Wd) (d : Nat) (c : cx) {n0 z0 : Nat} {z : Int32 × hs}       :
    ∀ (n : Nat) (S : hs) (x2 : Int32), lp_M_findFar_34  n S x2 = some z → J w (d + 3) m_M_findFar (n0, z0, none, mk c z.2) 34 [some (.ref 191), none, some (.int x2), none, none] [] (mk c S) := by
  intro n
  induction n with
  | zero => intro S x2 H; cases H
  | succ n ih =>
    intro S x2 H
    rw [lp_M_findFar_34] at H
    refine J.run b_M_findFar_34_1 k_M_findFar_34_1 rfl (show J w (d + 3) m_M_findFar (n0, z0, none, mk c z.2) 35 [some (.ref 191), none, some (.int x2), none, none] [.int x2] (mk c S) from ?_)
    refine J.zeq (tgt := 148) d_M_findFar_35 rfl (fun q7 => ?_) (fun q7 => ?_)
    · have H := ite_t H q7
      obtain rfl := some_e H
      exact J.vret d_M_findFar_148 rfl rfl
    · have H := ite_f H q7
      refine J.run b_M_findFar_38_4 k_M_findFar_38_4 rfl (show J w (d + 3) m_M_findFar (n0, z0, none, mk c z.2) 42 [some (.ref 191), none, some (.int (0 : Int32)), some (.int (0 : Int32)), none] [] (mk c S) from ?_)
      refine J.mask [true, false, true, true, false] ?_
      refine lo_M_findFar_42 w d c  ?_ 1000 S (0 : Int32) (0 : Int32) H
      · intro S27 y28 y29 H
        try dsimp only at H
        refine J.goto (tgt := 34) d_M_findFar_145 rfl ?_
        refine J.mask [true, false, true, false, false] ?_
        exact ih S27 y28 H
theorem c_M_findFar (w : Wd) (d : Nat) (c : cx)   (S : hs) (x1 : Int32)  {z : Int32 × hs} (H : f_M_findFar S x1 = some z) : Cl w (d + 3) m_M_findFar [.ref 191, .int x1] (mk c S) (none) (mk c z.2) := by
  refine Cl.of (Nat.le_refl _) (Nat.le_refl _) (by decide +kernel) (Nat.le_of_ble_eq_true rfl) ?_
  unfold f_M_findFar at H
  generalize hN (mk c S) = n0
  generalize hZ (mk c S) = z0
  show J w (d + 3) m_M_findFar (n0, z0, none, mk c z.2) 0 [some (.ref 191), some (.int x1), none, none, none] [] (mk c S)
  refine J.run b_M_findFar_0_2 k_M_findFar_0_2 rfl (show J w (d + 3) m_M_findFar (n0, z0, none, mk c z.2) 2 [some (.ref 191), some (.int x1), some (.int (0 : Int32)), none, none] [] (mk c S) from ?_)
  refine J.mask [true, true, true, false, false] ?_
  refine lo_M_findFar_2 w d c x1 ?_ 1000 S (0 : Int32) H
  · intro S5 y6 H
    try dsimp only at H
    refine J.run b_M_findFar_32_2 k_M_findFar_32_2 rfl (show J w (d + 3) m_M_findFar (n0, z0, none, mk c z.2) 34 [some (.ref 191), none, some (.int (1 : Int32)), none, none] [] (mk c S5) from ?_)
    refine J.mask [true, false, true, false, false] ?_
    refine lo_M_findFar_34 w d c   1000 S5 (1 : Int32) H
def b_M_farTo_0_4 : List Ins := [(.ldc_w 273, 0, 100000, 0), (.istore_n 2, 0, 0, 0), (.iconst (0), 0, 0, 0), (.istore_n 3, 0, 0, 0)]
theorem k_M_farTo_0_4 : bok m_M_farTo 0 b_M_farTo_0_4 = true := by decide +kernel
def b_M_farTo_6_2 : List Ins := [(.iload_n 3, 0, 0, 0), (.bipush (40), 0, 0, 0)]
theorem k_M_farTo_6_2 : bok m_M_farTo 6 b_M_farTo_6_2 = true := by decide +kernel
def b_M_farTo_48_1 : List Ins := [(.iload_n 2, 0, 0, 0)]
theorem k_M_farTo_48_1 : bok m_M_farTo 48 b_M_farTo_48_1 = true := by decide +kernel
def b_M_farTo_12_5 : List Ins := [(.aload_n 0, 0, 0, 0), (.getfield 72, 11, 19, 2), (.iload_n 3, 0, 0, 0), (.iaload, 0, 0, 0), (.iload_n 2, 0, 0, 0)]
theorem k_M_farTo_12_5 : bok m_M_farTo 12 b_M_farTo_12_5 = true := by decide +kernel
def b_M_farTo_40_3 : List Ins := [(.iload_n 2, 0, 0, 0), (.istore_n 2, 0, 0, 0), (.iinc 3 (1), 0, 0, 0)]
theorem k_M_farTo_40_3 : bok m_M_farTo 40 b_M_farTo_40_3 = true := by decide +kernel
def b_M_farTo_22_2 : List Ins := [(.aload_n 0, 0, 0, 0), (.iload_n 3, 0, 0, 0)]
theorem k_M_farTo_22_2 : bok m_M_farTo 22 b_M_farTo_22_2 = true := by decide +kernel
def b_M_farTo_27_1 : List Ins := [(.iload_n 1, 0, 0, 0)]
theorem k_M_farTo_27_1 : bok m_M_farTo 27 b_M_farTo_27_1 = true := by decide +kernel
def b_M_farTo_31_4 : List Ins := [(.aload_n 0, 0, 0, 0), (.getfield 72, 11, 19, 2), (.iload_n 3, 0, 0, 0), (.iaload, 0, 0, 0)]
theorem k_M_farTo_31_4 : bok m_M_farTo 31 b_M_farTo_31_4 = true := by decide +kernel
def b_M_farTo_41_2 : List Ins := [(.istore_n 2, 0, 0, 0), (.iinc 3 (1), 0, 0, 0)]
theorem k_M_farTo_41_2 : bok m_M_farTo 41 b_M_farTo_41_2 = true := by decide +kernel
theorem d_M_farTo_9 : decode m_M_farTo.2.1 9 = .ok (.if_icmp .ge (39), 3) := by decide +kernel
theorem d_M_farTo_49 : decode m_M_farTo.2.1 49 = .ok (.ireturn, 1) := by decide +kernel
theorem d_M_farTo_19 : decode m_M_farTo.2.1 19 = .ok (.if_icmp .ge (21), 3) := by decide +kernel
theorem d_M_farTo_45 : decode m_M_farTo.2.1 45 = .ok (.goto (-39), 3) := by decide +kernel
theorem d_M_farTo_24 : decode m_M_farTo.2.1 24 = .ok (.invokevirtual 130, 3) := by decide +kernel
theorem d_M_farTo_28 : decode m_M_farTo.2.1 28 = .ok (.if_icmp .ne (12), 3) := by decide +kernel
theorem d_M_farTo_37 : decode m_M_farTo.2.1 37 = .ok (.goto (4), 3) := by decide +kernel
def lp_M_farTo_6 (x1 : Int32)   : Nat → hs → Int32 → Int32 → Option (Int32 × hs)
  | 0, _, _, _ => none
  | n + 1, S, x2, x3 => (if (40 : Int32) ≤ x3 then some (x2, S) else ck (inb x3 40) ((if x2 ≤ (gI S 202 (x3).toNatClampNeg) then lp_M_farTo_6 x1 n S x2 (x3 + (1 : Int32)) else bd (f_M_endOf  S x3) fun r4 S5 => (if r4 = x1 then lp_M_farTo_6 x1 n S5 (gI S5 202 (x3).toNatClampNeg) (x3 + (1 : Int32)) else lp_M_farTo_6 x1 n S5 x2 (x3 + (1 : Int32))))))
def f_M_farTo  (S : hs) (x1 : Int32) : Option (Int32 × hs) := lp_M_farTo_6 x1 1000 S (100000 : Int32) (0 : Int32)
theorem lo_M_farTo_6 (w : Wd) (d : Nat) (c : cx) {n0 z0 : Nat} {z : Int32 × hs}   (x1 : Int32)    :
    ∀ (n : Nat) (S : hs) (x2 : Int32) (x3 : Int32), lp_M_farTo_6 x1 n S x2 x3 = some z → J w (d + 3) m_M_farTo (n0, z0, some (.int z.1), mk c z.2) 6 [some (.ref 191), some (.int x1), some (.int x2), some (.int x3)] [] (mk c S) := by
  intro n
  induction n with
  | zero => intro S x2 x3 H; cases H
  | succ n ih =>
    intro S x2 x3 H
    rw [lp_M_farTo_6] at H
    refine J.run b_M_farTo_6_2 k_M_farTo_6_2 rfl (show J w (d + 3) m_M_farTo (n0, z0, some (.int z.1), mk c z.2) 9 [some (.ref 191), some (.int x1), some (.int x2), some (.int x3)] [.int (40 : Int32), .int x3] (mk c S) from ?_)
    refine J.cge (tgt := 48) d_M_farTo_9 rfl (fun q1 => ?_) (fun q1 => ?_)
    · have H := ite_t H q1
      refine J.run b_M_farTo_48_1 k_M_farTo_48_1 rfl (show J w (d + 3) m_M_farTo (n0, z0, some (.int z.1), mk c z.2) 49 [some (.ref 191), some (.int x1), some (.int x2), some (.int x3)] [.int x2] (mk c S) from ?_)
      obtain rfl := some_e H
      exact J.iret d_M_farTo_49 rfl rfl
    · have H := ite_f H q1
      obtain ⟨g2, H⟩ := ck_e H
      refine J.run b_M_farTo_12_5 k_M_farTo_12_5 rfl (And.intro (okO_st (S := S) rfl) (And.intro (okA_st (S := S) (n := 40) rfl g2) (show J w (d + 3) m_M_farTo (n0, z0, some (.int z.1), mk c z.2) 19 [some (.ref 191), some (.int x1), some (.int x2), some (.int x3)] [.int x2, .int (gI S 202 (x3).toNatClampNeg)] (mk c S) from ?_)))
      refine J.cge (tgt := 40) d_M_farTo_19 rfl (fun q3 => ?_) (fun q3 => ?_)
      · have H := ite_t H q3
        refine J.run b_M_farTo_40_3 k_M_farTo_40_3 rfl (show J w (d + 3) m_M_farTo (n0, z0, some (.int z.1), mk c z.2) 45 [some (.ref 191), some (.int x1), some (.int x2), some (.int (x3 + (1 : Int32)))] [] (mk c S) from ?_)
        refine J.goto (tgt := 6) d_M_farTo_45 rfl ?_
        refine J.mask [true, true, true, true] ?_
        exact ih S x2 (x3 + (1 : Int32)) H
      · have H := ite_f H q3
        refine J.run b_M_farTo_22_2 k_M_farTo_22_2 rfl (show J w (d + 3) m_M_farTo (n0, z0, some (.int z.1), mk c z.2) 24 [some (.ref 191), some (.int x1), some (.int x2), some (.int x3)] [.int x3, .ref 191] (mk c S) from ?_)
        obtain ⟨r4, S5, h6, H⟩ := bd_e H
        refine J.callV (y := m_M_endOf) (av := [.int x3]) (rest := []) (q := 191) l_M_130 d_M_farTo_24 (isC_st rfl rfl) (c_M_endOf w (d + 0) c  S x3 h6) rfl (Nat.le_of_ble_eq_true rfl) ⟨Nat.le_refl _, Nat.le_refl _⟩ (show J w (d + 3) m_M_farTo (n0, z0, some (.int z.1), mk c z.2) 27 [some (.ref 191), some (.int x1), some (.int x2), some (.int x3)] [.int r4] (mk c S5) from ?_)
        refine J.run b_M_farTo_27_1 k_M_farTo_27_1 rfl (show J w (d + 3) m_M_farTo (n0, z0, some (.int z.1), mk c z.2) 28 [some (.ref 191), some (.int x1), some (.int x2), some (.int x3)] [.int x1, .int r4] (mk c S5) from ?_)
        refine J.cne (tgt := 40) d_M_farTo_28 rfl (fun q7 => ?_) (fun q7 => ?_)
        · have H := ite_f H q7
          refine J.run b_M_farTo_40_3 k_M_farTo_40_3 rfl (show J w (d + 3) m_M_farTo (n0, z0, some (.int z.1), mk c z.2) 45 [some (.ref 191), some (.int x1), some (.int x2), some (.int (x3 + (1 : Int32)))] [] (mk c S5) from ?_)
          refine J.goto (tgt := 6) d_M_farTo_45 rfl ?_
          refine J.mask [true, true, true, true] ?_
          exact ih S5 x2 (x3 + (1 : Int32)) H
        · have H := ite_t H q7
          refine J.run b_M_farTo_31_4 k_M_farTo_31_4 rfl (And.intro (okO_st (S := S5) rfl) (And.intro (okA_st (S := S5) (n := 40) rfl g2) (show J w (d + 3) m_M_farTo (n0, z0, some (.int z.1), mk c z.2) 37 [some (.ref 191), some (.int x1), some (.int x2), some (.int x3)] [.int (gI S5 202 (x3).toNatClampNeg)] (mk c S5) from ?_)))
          refine J.goto (tgt := 41) d_M_farTo_37 rfl ?_
          refine J.run b_M_farTo_41_2 k_M_farTo_41_2 rfl (show J w (d + 3) m_M_farTo (n0, z0, some (.int z.1), mk c z.2) 45 [some (.ref 191), some (.int x1), some (.int (gI S5 202 (x3).toNatClampNeg)), some (.int (x3 + (1 : Int32)))] [] (mk c S5) from ?_)
          refine J.goto (tgt := 6) d_M_farTo_45 rfl ?_
          refine J.mask [true, true, true, true] ?_
          exact ih S5 (gI S5 202 (x3).toNatClampNeg) (x3 + (1 : Int32)) H
theorem c_M_farTo (w : Wd) (d : Nat) (c : cx)   (S : hs) (x1 : Int32)  {z : Int32 × hs} (H : f_M_farTo S x1 = some z) : Cl w (d + 3) m_M_farTo [.ref 191, .int x1] (mk c S) (some (.int z.1)) (mk c z.2) := by
  refine Cl.of (Nat.le_refl _) (Nat.le_refl _) (by decide +kernel) (Nat.le_of_ble_eq_true rfl) ?_
  unfold f_M_farTo at H
  generalize hN (mk c S) = n0
  generalize hZ (mk c S) = z0
  show J w (d + 3) m_M_farTo (n0, z0, some (.int z.1), mk c z.2) 0 [some (.ref 191), some (.int x1), none, none] [] (mk c S)
  refine J.run b_M_farTo_0_4 k_M_farTo_0_4 rfl (show J w (d + 3) m_M_farTo (n0, z0, some (.int z.1), mk c z.2) 6 [some (.ref 191), some (.int x1), some (.int (100000 : Int32)), some (.int (0 : Int32))] [] (mk c S) from ?_)
  refine J.mask [true, true, true, true] ?_
  refine lo_M_farTo_6 w d c x1  1000 S (100000 : Int32) (0 : Int32) H
def b_M_farOf_0_2 : List Ins := [(.aload_n 0, 0, 0, 0), (.iload_n 1, 0, 0, 0)]
theorem k_M_farOf_0_2 : bok m_M_farOf 0 b_M_farOf_0_2 = true := by decide +kernel
def b_M_farOf_5_2 : List Ins := [(.aload_n 0, 0, 0, 0), (.iload_n 2, 0, 0, 0)]
theorem k_M_farOf_5_2 : bok m_M_farOf 5 b_M_farOf_5_2 = true := by decide +kernel
theorem d_M_farOf_2 : decode m_M_farOf.2.1 2 = .ok (.invokevirtual 274, 3) := by decide +kernel
theorem d_M_farOf_7 : decode m_M_farOf.2.1 7 = .ok (.invokevirtual 277, 3) := by decide +kernel
theorem d_M_farOf_10 : decode m_M_farOf.2.1 10 = .ok (.ireturn, 1) := by decide +kernel
def f_M_farOf  (S : hs) (x1 : Int32) (x2 : Int32) : Option (Int32 × hs) := bd (f_M_findFar  S x1) fun r1 S2 => bd (f_M_farTo  S2 x2) fun r4 S5 => some (r4, S5)
theorem c_M_farOf (w : Wd) (d : Nat) (c : cx)   (S : hs) (x1 : Int32) (x2 : Int32)  {z : Int32 × hs} (H : f_M_farOf S x1 x2 = some z) : Cl w (d + 4) m_M_farOf [.ref 191, .int x1, .int x2] (mk c S) (some (.int z.1)) (mk c z.2) := by
  refine Cl.of (Nat.le_refl _) (Nat.le_refl _) (by decide +kernel) (Nat.le_of_ble_eq_true rfl) ?_
  unfold f_M_farOf at H
  generalize hN (mk c S) = n0
  generalize hZ (mk c S) = z0
  show J w (d + 4) m_M_farOf (n0, z0, some (.int z.1), mk c z.2) 0 [some (.ref 191), some (.int x1), some (.int x2)] [] (mk c S)
  refine J.run b_M_farOf_0_2 k_M_farOf_0_2 rfl (show J w (d + 4) m_M_farOf (n0, z0, some (.int z.1), mk c z.2) 2 [some (.ref 191), some (.int x1), some (.int x2)] [.int x1, .ref 191] (mk c S) from ?_)
  obtain ⟨r1, S2, h3, H⟩ := bd_e H
  refine J.callV (y := m_M_findFar) (av := [.int x1]) (rest := []) (q := 191) l_M_274 d_M_farOf_2 (isC_st rfl rfl) (c_M_findFar w (d + 0) c  S x1 h3) rfl (Nat.le_of_ble_eq_true rfl) ⟨Nat.le_refl _, Nat.le_refl _⟩ (show J w (d + 4) m_M_farOf (n0, z0, some (.int z.1), mk c z.2) 5 [some (.ref 191), some (.int x1), some (.int x2)] [] (mk c S2) from ?_)
  refine J.run b_M_farOf_5_2 k_M_farOf_5_2 rfl (show J w (d + 4) m_M_farOf (n0, z0, some (.int z.1), mk c z.2) 7 [some (.ref 191), some (.int x1), some (.int x2)] [.int x2, .ref 191] (mk c S2) from ?_)
  obtain ⟨r4, S5, h6, H⟩ := bd_e H
  refine J.callV (y := m_M_farTo) (av := [.int x2]) (rest := []) (q := 191) l_M_277 d_M_farOf_7 (isC_st rfl rfl) (c_M_farTo w (d + 0) c  S2 x2 h6) rfl (Nat.le_of_ble_eq_true rfl) ⟨Nat.le_refl _, Nat.le_refl _⟩ (show J w (d + 4) m_M_farOf (n0, z0, some (.int z.1), mk c z.2) 10 [some (.ref 191), some (.int x1), some (.int x2)] [.int r4] (mk c S5) from ?_)
  obtain rfl := some_e H
  exact J.iret d_M_farOf_10 rfl rfl
def b_M_far_0_2 : List Ins := [(.aload_n 0, 0, 0, 0), (.iload_n 1, 0, 0, 0)]
theorem k_M_far_0_2 : bok m_M_far 0 b_M_far_0_2 = true := by decide +kernel
def b_M_far_24_1 : List Ins := [(.iconst (-1), 0, 0, 0)]
theorem k_M_far_24_1 : bok m_M_far 24 b_M_far_24_1 = true := by decide +kernel
def b_M_far_8_3 : List Ins := [(.aload_n 0, 0, 0, 0), (.iload_n 2, 0, 0, 0), (.iconst (1), 0, 0, 0)]
theorem k_M_far_8_3 : bok m_M_far 8 b_M_far_8_3 = true := by decide +kernel
def b_M_far_17_1 : List Ins := [(.iload_n 3, 0, 0, 0)]
theorem k_M_far_17_1 : bok m_M_far 17 b_M_far_17_1 = true := by decide +kernel
def b_M_far_26_3 : List Ins := [(.aload_n 0, 0, 0, 0), (.iload_n 3, 0, 0, 0), (.iconst (0), 0, 0, 0)]
theorem k_M_far_26_3 : bok m_M_far 26 b_M_far_26_3 = true := by decide +kernel
def b_M_far_32_3 : List Ins := [(.aload_n 0, 0, 0, 0), (.iload_n 1, 0, 0, 0), (.iload_n 2, 0, 0, 0)]
theorem k_M_far_32_3 : bok m_M_far 32 b_M_far_32_3 = true := by decide +kernel
def b_M_far_38_3 : List Ins := [(.istore 4, 0, 0, 0), (.iload 4, 0, 0, 0), (.ldc_w 273, 0, 100000, 0)]
theorem k_M_far_38_3 : bok m_M_far 38 b_M_far_38_3 = true := by decide +kernel
def b_M_far_53_1 : List Ins := [(.iload 4, 0, 0, 0)]
theorem k_M_far_53_1 : bok m_M_far 53 b_M_far_53_1 = true := by decide +kernel
def b_M_far_48_1 : List Ins := [(.bipush (-3), 0, 0, 0)]
theorem k_M_far_48_1 : bok m_M_far 48 b_M_far_48_1 = true := by decide +kernel
theorem d_M_far_2 : decode m_M_far.2.1 2 = .ok (.invokevirtual 123, 3) := by decide +kernel
theorem d_M_far_5 : decode m_M_far.2.1 5 = .ok (.ifCond .eq (19), 3) := by decide +kernel
theorem d_M_far_25 : decode m_M_far.2.1 25 = .ok (.ireturn, 1) := by decide +kernel
theorem d_M_far_11 : decode m_M_far.2.1 11 = .ok (.invokevirtual 120, 3) := by decide +kernel
theorem d_M_far_14 : decode m_M_far.2.1 14 = .ok (.ifCond .eq (10), 3) := by decide +kernel
theorem d_M_far_18 : decode m_M_far.2.1 18 = .ok (.invokestatic 175, 3) := by decide +kernel
theorem d_M_far_21 : decode m_M_far.2.1 21 = .ok (.ifCond .ne (5), 3) := by decide +kernel
theorem d_M_far_29 : decode m_M_far.2.1 29 = .ok (.invokevirtual 280, 3) := by decide +kernel
theorem d_M_far_35 : decode m_M_far.2.1 35 = .ok (.invokevirtual 284, 3) := by decide +kernel
theorem d_M_far_45 : decode m_M_far.2.1 45 = .ok (.if_icmp .lt (8), 3) := by decide +kernel
theorem d_M_far_55 : decode m_M_far.2.1 55 = .ok (.ireturn, 1) := by decide +kernel
theorem d_M_far_50 : decode m_M_far.2.1 50 = .ok (.goto (5), 3) := by decide +kernel
def f_M_far  (S : hs) (x1 : Int32) (x2 : Int32) (x3 : Int32) : Option (Int32 × hs) := bd (f_M_isCourse  S x1) fun r1 S2 => (if r1 = 0 then some ((-1 : Int32), S2) else bd (f_M_is  S2 x2 (1 : Int32)) fun r5 S6 => (if r5 = 0 then some ((-1 : Int32), S6) else bd (f_M_isWidth  S6 x3) fun r9 S10 => (if r9 = 0 then some ((-1 : Int32), S10) else bd (f_M_findOnto  S10 x3 (0 : Int32)) fun r13 S14 => bd (f_M_farOf  S14 x1 x2) fun r16 S17 => (if r16 < (100000 : Int32) then some (r16, S17) else some ((-3 : Int32), S17)))))
theorem c_M_far (w : Wd) (d : Nat) (c : cx)   (S : hs) (x1 : Int32) (x2 : Int32) (x3 : Int32)  {z : Int32 × hs} (H : f_M_far S x1 x2 x3 = some z) : Cl w (d + 8) m_M_far [.ref 191, .int x1, .int x2, .int x3] (mk c S) (some (.int z.1)) (mk c z.2) := by
  refine Cl.of (Nat.le_refl _) (Nat.le_refl _) (by decide +kernel) (Nat.le_of_ble_eq_true rfl) ?_
  unfold f_M_far at H
  generalize hN (mk c S) = n0
  generalize hZ (mk c S) = z0
  show J w (d + 8) m_M_far (n0, z0, some (.int z.1), mk c z.2) 0 [some (.ref 191), some (.int x1), some (.int x2), some (.int x3), none] [] (mk c S)
  refine J.run b_M_far_0_2 k_M_far_0_2 rfl (show J w (d + 8) m_M_far (n0, z0, some (.int z.1), mk c z.2) 2 [some (.ref 191), some (.int x1), some (.int x2), some (.int x3), none] [.int x1, .ref 191] (mk c S) from ?_)
  obtain ⟨r1, S2, h3, H⟩ := bd_e H
  refine J.callV (y := m_M_isCourse) (av := [.int x1]) (rest := []) (q := 191) l_M_123 d_M_far_2 (isC_st rfl rfl) (c_M_isCourse w (d + 5) c  S x1 h3) rfl (Nat.le_of_ble_eq_true rfl) ⟨Nat.le_refl _, Nat.le_refl _⟩ (show J w (d + 8) m_M_far (n0, z0, some (.int z.1), mk c z.2) 5 [some (.ref 191), some (.int x1), some (.int x2), some (.int x3), none] [.int r1] (mk c S2) from ?_)
  refine J.zeq (tgt := 24) d_M_far_5 rfl (fun q4 => ?_) (fun q4 => ?_)
  · have H := ite_t H q4
    refine J.run b_M_far_24_1 k_M_far_24_1 rfl (show J w (d + 8) m_M_far (n0, z0, some (.int z.1), mk c z.2) 25 [some (.ref 191), some (.int x1), some (.int x2), some (.int x3), none] [.int (-1 : Int32)] (mk c S2) from ?_)
    obtain rfl := some_e H
    exact J.iret d_M_far_25 rfl rfl
  · have H := ite_f H q4
    refine J.run b_M_far_8_3 k_M_far_8_3 rfl (show J w (d + 8) m_M_far (n0, z0, some (.int z.1), mk c z.2) 11 [some (.ref 191), some (.int x1), some (.int x2), some (.int x3), none] [.int (1 : Int32), .int x2, .ref 191] (mk c S2) from ?_)
    obtain ⟨r5, S6, h7, H⟩ := bd_e H
    refine J.callV (y := m_M_is) (av := [.int x2, .int (1 : Int32)]) (rest := []) (q := 191) l_M_120 d_M_far_11 (isC_st rfl rfl) (c_M_is w (d + 5) c  S2 x2 (1 : Int32) h7) rfl (Nat.le_of_ble_eq_true rfl) ⟨Nat.le_refl _, Nat.le_refl _⟩ (show J w (d + 8) m_M_far (n0, z0, some (.int z.1), mk c z.2) 14 [some (.ref 191), some (.int x1), some (.int x2), some (.int x3), none] [.int r5] (mk c S6) from ?_)
    refine J.zeq (tgt := 24) d_M_far_14 rfl (fun q8 => ?_) (fun q8 => ?_)
    · have H := ite_t H q8
      refine J.run b_M_far_24_1 k_M_far_24_1 rfl (show J w (d + 8) m_M_far (n0, z0, some (.int z.1), mk c z.2) 25 [some (.ref 191), some (.int x1), some (.int x2), some (.int x3), none] [.int (-1 : Int32)] (mk c S6) from ?_)
      obtain rfl := some_e H
      exact J.iret d_M_far_25 rfl rfl
    · have H := ite_f H q8
      refine J.run b_M_far_17_1 k_M_far_17_1 rfl (show J w (d + 8) m_M_far (n0, z0, some (.int z.1), mk c z.2) 18 [some (.ref 191), some (.int x1), some (.int x2), some (.int x3), none] [.int x3] (mk c S6) from ?_)
      obtain ⟨r9, S10, h11, H⟩ := bd_e H
      refine J.callS (y := m_M_isWidth) (av := [.int x3]) (rest := []) l_M_175 d_M_far_18 (c_M_isWidth w (d + 5) c  S6 x3 h11) rfl (Nat.le_of_ble_eq_true rfl) ⟨Nat.le_refl _, Nat.le_refl _⟩ (show J w (d + 8) m_M_far (n0, z0, some (.int z.1), mk c z.2) 21 [some (.ref 191), some (.int x1), some (.int x2), some (.int x3), none] [.int r9] (mk c S10) from ?_)
      refine J.zne (tgt := 26) d_M_far_21 rfl (fun q12 => ?_) (fun q12 => ?_)
      · have H := ite_f H q12
        refine J.run b_M_far_26_3 k_M_far_26_3 rfl (show J w (d + 8) m_M_far (n0, z0, some (.int z.1), mk c z.2) 29 [some (.ref 191), some (.int x1), some (.int x2), some (.int x3), none] [.int (0 : Int32), .int x3, .ref 191] (mk c S10) from ?_)
        obtain ⟨r13, S14, h15, H⟩ := bd_e H
        refine J.callV (y := m_M_findOnto) (av := [.int x3, .int (0 : Int32)]) (rest := []) (q := 191) l_M_280 d_M_far_29 (isC_st rfl rfl) (c_M_findOnto w (d + 0) c  S10 x3 (0 : Int32) h15) rfl (Nat.le_of_ble_eq_true rfl) ⟨Nat.le_refl _, Nat.le_refl _⟩ (show J w (d + 8) m_M_far (n0, z0, some (.int z.1), mk c z.2) 32 [some (.ref 191), some (.int x1), some (.int x2), some (.int x3), none] [] (mk c S14) from ?_)
        refine J.run b_M_far_32_3 k_M_far_32_3 rfl (show J w (d + 8) m_M_far (n0, z0, some (.int z.1), mk c z.2) 35 [some (.ref 191), some (.int x1), some (.int x2), some (.int x3), none] [.int x2, .int x1, .ref 191] (mk c S14) from ?_)
        obtain ⟨r16, S17, h18, H⟩ := bd_e H
        refine J.callV (y := m_M_farOf) (av := [.int x1, .int x2]) (rest := []) (q := 191) l_M_284 d_M_far_35 (isC_st rfl rfl) (c_M_farOf w (d + 3) c  S14 x1 x2 h18) rfl (Nat.le_of_ble_eq_true rfl) ⟨Nat.le_refl _, Nat.le_refl _⟩ (show J w (d + 8) m_M_far (n0, z0, some (.int z.1), mk c z.2) 38 [some (.ref 191), some (.int x1), some (.int x2), some (.int x3), none] [.int r16] (mk c S17) from ?_)
        refine J.run b_M_far_38_3 k_M_far_38_3 rfl (show J w (d + 8) m_M_far (n0, z0, some (.int z.1), mk c z.2) 45 [some (.ref 191), some (.int x1), some (.int x2), some (.int x3), some (.int r16)] [.int (100000 : Int32), .int r16] (mk c S17) from ?_)
        refine J.clt (tgt := 53) d_M_far_45 rfl (fun q19 => ?_) (fun q19 => ?_)
        · have H := ite_t H q19
          refine J.run b_M_far_53_1 k_M_far_53_1 rfl (show J w (d + 8) m_M_far (n0, z0, some (.int z.1), mk c z.2) 55 [some (.ref 191), some (.int x1), some (.int x2), some (.int x3), some (.int r16)] [.int r16] (mk c S17) from ?_)
          obtain rfl := some_e H
          exact J.iret d_M_far_55 rfl rfl
        · have H := ite_f H q19
          refine J.run b_M_far_48_1 k_M_far_48_1 rfl (show J w (d + 8) m_M_far (n0, z0, some (.int z.1), mk c z.2) 50 [some (.ref 191), some (.int x1), some (.int x2), some (.int x3), some (.int r16)] [.int (-3 : Int32)] (mk c S17) from ?_)
          refine J.goto (tgt := 55) d_M_far_50 rfl ?_
          obtain rfl := some_e H
          exact J.iret d_M_far_55 rfl rfl
      · have H := ite_t H q12
        refine J.run b_M_far_24_1 k_M_far_24_1 rfl (show J w (d + 8) m_M_far (n0, z0, some (.int z.1), mk c z.2) 25 [some (.ref 191), some (.int x1), some (.int x2), some (.int x3), none] [.int (-1 : Int32)] (mk c S10) from ?_)
        obtain rfl := some_e H
        exact J.iret d_M_far_25 rfl rfl
def b_M_firstOf_0_3 : List Ins := [(.aload_n 0, 0, 0, 0), (.iload_n 1, 0, 0, 0), (.iload_n 2, 0, 0, 0)]
theorem k_M_firstOf_0_3 : bok m_M_firstOf 0 b_M_firstOf_0_3 = true := by decide +kernel
def b_M_firstOf_6_3 : List Ins := [(.istore_n 3, 0, 0, 0), (.iconst (0), 0, 0, 0), (.istore 4, 0, 0, 0)]
theorem k_M_firstOf_6_3 : bok m_M_firstOf 6 b_M_firstOf_6_3 = true := by decide +kernel
def b_M_firstOf_10_2 : List Ins := [(.iload 4, 0, 0, 0), (.bipush (40), 0, 0, 0)]
theorem k_M_firstOf_10_2 : bok m_M_firstOf 10 b_M_firstOf_10_2 = true := by decide +kernel
def b_M_firstOf_71_1 : List Ins := [(.iconst (-1), 0, 0, 0)]
theorem k_M_firstOf_71_1 : bok m_M_firstOf 71 b_M_firstOf_71_1 = true := by decide +kernel
def b_M_firstOf_17_1 : List Ins := [(.iload_n 3, 0, 0, 0)]
theorem k_M_firstOf_17_1 : bok m_M_firstOf 17 b_M_firstOf_17_1 = true := by decide +kernel
def b_M_firstOf_21_2 : List Ins := [(.iload_n 3, 0, 0, 0), (.ldc_w 273, 0, 100000, 0)]
theorem k_M_firstOf_21_2 : bok m_M_firstOf 21 b_M_firstOf_21_2 = true := by decide +kernel
def b_M_firstOf_28_5 : List Ins := [(.aload_n 0, 0, 0, 0), (.getfield 68, 11, 18, 2), (.iload_n 1, 0, 0, 0), (.laload, 0, 0, 0), (.iload 4, 0, 0, 0)]
theorem k_M_firstOf_28_5 : bok m_M_firstOf 28 b_M_firstOf_28_5 = true := by decide +kernel
def b_M_firstOf_65_1 : List Ins := [(.iinc 4 (1), 0, 0, 0)]
theorem k_M_firstOf_65_1 : bok m_M_firstOf 65 b_M_firstOf_65_1 = true := by decide +kernel
def b_M_firstOf_42_4 : List Ins := [(.aload_n 0, 0, 0, 0), (.iload 4, 0, 0, 0), (.iconst (2), 0, 0, 0), (.idiv, 0, 0, 0)]
theorem k_M_firstOf_42_4 : bok m_M_firstOf 42 b_M_firstOf_42_4 = true := by decide +kernel
def b_M_firstOf_50_3 : List Ins := [(.aload_n 0, 0, 0, 0), (.iload 4, 0, 0, 0), (.iload_n 2, 0, 0, 0)]
theorem k_M_firstOf_50_3 : bok m_M_firstOf 50 b_M_firstOf_50_3 = true := by decide +kernel
def b_M_firstOf_57_2 : List Ins := [(.iadd, 0, 0, 0), (.iload_n 3, 0, 0, 0)]
theorem k_M_firstOf_57_2 : bok m_M_firstOf 57 b_M_firstOf_57_2 = true := by decide +kernel
def b_M_firstOf_62_1 : List Ins := [(.iload 4, 0, 0, 0)]
theorem k_M_firstOf_62_1 : bok m_M_firstOf 62 b_M_firstOf_62_1 = true := by decide +kernel
theorem d_M_firstOf_3 : decode m_M_firstOf.2.1 3 = .ok (.invokevirtual 284, 3) := by decide +kernel
theorem d_M_firstOf_14 : decode m_M_firstOf.2.1 14 = .ok (.if_icmp .ge (57), 3) := by decide +kernel
theorem d_M_firstOf_72 : decode m_M_firstOf.2.1 72 = .ok (.ireturn, 1) := by decide +kernel
theorem d_M_firstOf_18 : decode m_M_firstOf.2.1 18 = .ok (.ifCond .le (53), 3) := by decide +kernel
theorem d_M_firstOf_25 : decode m_M_firstOf.2.1 25 = .ok (.if_icmp .ge (46), 3) := by decide +kernel
theorem d_M_firstOf_36 : decode m_M_firstOf.2.1 36 = .ok (.invokestatic 160, 3) := by decide +kernel
theorem d_M_firstOf_39 : decode m_M_firstOf.2.1 39 = .ok (.ifCond .eq (26), 3) := by decide +kernel
theorem d_M_firstOf_68 : decode m_M_firstOf.2.1 68 = .ok (.goto (-58), 3) := by decide +kernel
theorem d_M_firstOf_47 : decode m_M_firstOf.2.1 47 = .ok (.invokevirtual 142, 3) := by decide +kernel
theorem d_M_firstOf_54 : decode m_M_firstOf.2.1 54 = .ok (.invokevirtual 284, 3) := by decide +kernel
theorem d_M_firstOf_59 : decode m_M_firstOf.2.1 59 = .ok (.if_icmp .ne (6), 3) := by decide +kernel
theorem d_M_firstOf_64 : decode m_M_firstOf.2.1 64 = .ok (.ireturn, 1) := by decide +kernel
def lp_M_firstOf_10 (x1 : Int32) (x2 : Int32) (x3 : Int32)   : Nat → hs → Int32 → Option (Int32 × hs)
  | 0, _, _ => none
  | n + 1, S, x4 => (if (40 : Int32) ≤ x4 then some ((-1 : Int32), S) else (if x3 ≤ 0 then some ((-1 : Int32), S) else (if (100000 : Int32) ≤ x3 then some ((-1 : Int32), S) else ck (inb x1 40) (bd (f_M_hasBit  S (gJ S 201 (x1).toNatClampNeg) x4) fun r8 S9 => (if r8 = 0 then lp_M_firstOf_10 x1 x2 x3 n S9 (x4 + (1 : Int32)) else bd (f_M_longOf  S9 (x4 / (2 : Int32))) fun r12 S13 => bd (f_M_farOf  S13 x4 x2) fun r15 S16 => (if (r12 + r15) = x3 then some (x4, S16) else lp_M_firstOf_10 x1 x2 x3 n S16 (x4 + (1 : Int32))))))))
def f_M_firstOf  (S : hs) (x1 : Int32) (x2 : Int32) : Option (Int32 × hs) := bd (f_M_farOf  S x1 x2) fun r1 S2 => lp_M_firstOf_10 x1 x2 r1 1000 S2 (0 : Int32)
theorem lo_M_firstOf_10 (w : Wd) (d : Nat) (c : cx) {n0 z0 : Nat} {z : Int32 × hs}   (x1 : Int32) (x2 : Int32) (x3 : Int32)    :
    ∀ (n : Nat) (S : hs) (x4 : Int32), lp_M_firstOf_10 x1 x2 x3 n S x4 = some z → J w (d + 5) m_M_firstOf (n0, z0, some (.int z.1), mk c z.2) 10 [some (.ref 191), some (.int x1), some (.int x2), some (.int x3), some (.int x4)] [] (mk c S) := by
  intro n
  induction n with
  | zero => intro S x4 H; cases H
  | succ n ih =>
    intro S x4 H
    rw [lp_M_firstOf_10] at H
    refine J.run b_M_firstOf_10_2 k_M_firstOf_10_2 rfl (show J w (d + 5) m_M_firstOf (n0, z0, some (.int z.1), mk c z.2) 14 [some (.ref 191), some (.int x1), some (.int x2), some (.int x3), some (.int x4)] [.int (40 : Int32), .int x4] (mk c S) from ?_)
    refine J.cge (tgt := 71) d_M_firstOf_14 rfl (fun q4 => ?_) (fun q4 => ?_)
    · have H := ite_t H q4
      refine J.run b_M_firstOf_71_1 k_M_firstOf_71_1 rfl (show J w (d + 5) m_M_firstOf (n0, z0, some (.int z.1), mk c z.2) 72 [some (.ref 191), some (.int x1), some (.int x2), some (.int x3), some (.int x4)] [.int (-1 : Int32)] (mk c S) from ?_)
      obtain rfl := some_e H
      exact J.iret d_M_firstOf_72 rfl rfl
    · have H := ite_f H q4
      refine J.run b_M_firstOf_17_1 k_M_firstOf_17_1 rfl (show J w (d + 5) m_M_firstOf (n0, z0, some (.int z.1), mk c z.2) 18 [some (.ref 191), some (.int x1), some (.int x2), some (.int x3), some (.int x4)] [.int x3] (mk c S) from ?_)
      refine J.zle (tgt := 71) d_M_firstOf_18 rfl (fun q5 => ?_) (fun q5 => ?_)
      · have H := ite_t H q5
        refine J.run b_M_firstOf_71_1 k_M_firstOf_71_1 rfl (show J w (d + 5) m_M_firstOf (n0, z0, some (.int z.1), mk c z.2) 72 [some (.ref 191), some (.int x1), some (.int x2), some (.int x3), some (.int x4)] [.int (-1 : Int32)] (mk c S) from ?_)
        obtain rfl := some_e H
        exact J.iret d_M_firstOf_72 rfl rfl
      · have H := ite_f H q5
        refine J.run b_M_firstOf_21_2 k_M_firstOf_21_2 rfl (show J w (d + 5) m_M_firstOf (n0, z0, some (.int z.1), mk c z.2) 25 [some (.ref 191), some (.int x1), some (.int x2), some (.int x3), some (.int x4)] [.int (100000 : Int32), .int x3] (mk c S) from ?_)
        refine J.cge (tgt := 71) d_M_firstOf_25 rfl (fun q6 => ?_) (fun q6 => ?_)
        · have H := ite_t H q6
          refine J.run b_M_firstOf_71_1 k_M_firstOf_71_1 rfl (show J w (d + 5) m_M_firstOf (n0, z0, some (.int z.1), mk c z.2) 72 [some (.ref 191), some (.int x1), some (.int x2), some (.int x3), some (.int x4)] [.int (-1 : Int32)] (mk c S) from ?_)
          obtain rfl := some_e H
          exact J.iret d_M_firstOf_72 rfl rfl
        · have H := ite_f H q6
          obtain ⟨g7, H⟩ := ck_e H
          refine J.run b_M_firstOf_28_5 k_M_firstOf_28_5 rfl (And.intro (okO_st (S := S) rfl) (And.intro (okA_st (S := S) (n := 40) rfl g7) (show J w (d + 5) m_M_firstOf (n0, z0, some (.int z.1), mk c z.2) 36 [some (.ref 191), some (.int x1), some (.int x2), some (.int x3), some (.int x4)] [.int x4, .long (gJ S 201 (x1).toNatClampNeg)] (mk c S) from ?_)))
          obtain ⟨r8, S9, h10, H⟩ := bd_e H
          refine J.callS (y := m_M_hasBit) (av := [.long (gJ S 201 (x1).toNatClampNeg), .int x4]) (rest := []) l_M_160 d_M_firstOf_36 (c_M_hasBit w (d + 3) c  S (gJ S 201 (x1).toNatClampNeg) x4 h10) rfl (Nat.le_of_ble_eq_true rfl) ⟨Nat.le_refl _, Nat.le_refl _⟩ (show J w (d + 5) m_M_firstOf (n0, z0, some (.int z.1), mk c z.2) 39 [some (.ref 191), some (.int x1), some (.int x2), some (.int x3), some (.int x4)] [.int r8] (mk c S9) from ?_)
          refine J.zeq (tgt := 65) d_M_firstOf_39 rfl (fun q11 => ?_) (fun q11 => ?_)
          · have H := ite_t H q11
            refine J.run b_M_firstOf_65_1 k_M_firstOf_65_1 rfl (show J w (d + 5) m_M_firstOf (n0, z0, some (.int z.1), mk c z.2) 68 [some (.ref 191), some (.int x1), some (.int x2), some (.int x3), some (.int (x4 + (1 : Int32)))] [] (mk c S9) from ?_)
            refine J.goto (tgt := 10) d_M_firstOf_68 rfl ?_
            refine J.mask [true, true, true, true, true] ?_
            exact ih S9 (x4 + (1 : Int32)) H
          · have H := ite_f H q11
            refine J.run b_M_firstOf_42_4 k_M_firstOf_42_4 rfl (And.intro (by decide) (show J w (d + 5) m_M_firstOf (n0, z0, some (.int z.1), mk c z.2) 47 [some (.ref 191), some (.int x1), some (.int x2), some (.int x3), some (.int x4)] [.int (x4 / (2 : Int32)), .ref 191] (mk c S9) from ?_))
            obtain ⟨r12, S13, h14, H⟩ := bd_e H
            refine J.callV (y := m_M_longOf) (av := [.int (x4 / (2 : Int32))]) (rest := []) (q := 191) l_M_142 d_M_firstOf_47 (isC_st rfl rfl) (c_M_longOf w (d + 2) c  S9 (x4 / (2 : Int32)) h14) rfl (Nat.le_of_ble_eq_true rfl) ⟨Nat.le_refl _, Nat.le_refl _⟩ (show J w (d + 5) m_M_firstOf (n0, z0, some (.int z.1), mk c z.2) 50 [some (.ref 191), some (.int x1), some (.int x2), some (.int x3), some (.int x4)] [.int r12] (mk c S13) from ?_)
            refine J.run b_M_firstOf_50_3 k_M_firstOf_50_3 rfl (show J w (d + 5) m_M_firstOf (n0, z0, some (.int z.1), mk c z.2) 54 [some (.ref 191), some (.int x1), some (.int x2), some (.int x3), some (.int x4)] [.int x2, .int x4, .ref 191, .int r12] (mk c S13) from ?_)
            obtain ⟨r15, S16, h17, H⟩ := bd_e H
            refine J.callV (y := m_M_farOf) (av := [.int x4, .int x2]) (rest := [.int r12]) (q := 191) l_M_284 d_M_firstOf_54 (isC_st rfl rfl) (c_M_farOf w (d + 0) c  S13 x4 x2 h17) rfl (Nat.le_of_ble_eq_true rfl) ⟨Nat.le_refl _, Nat.le_refl _⟩ (show J w (d + 5) m_M_firstOf (n0, z0, some (.int z.1), mk c z.2) 57 [some (.ref 191), some (.int x1), some (.int x2), some (.int x3), some (.int x4)] [.int r15, .int r12] (mk c S16) from ?_)
            refine J.run b_M_firstOf_57_2 k_M_firstOf_57_2 rfl (show J w (d + 5) m_M_firstOf (n0, z0, some (.int z.1), mk c z.2) 59 [some (.ref 191), some (.int x1), some (.int x2), some (.int x3), some (.int x4)] [.int x3, .int (r12 + r15)] (mk c S16) from ?_)
            refine J.cne (tgt := 65) d_M_firstOf_59 rfl (fun q18 => ?_) (fun q18 => ?_)
            · have H := ite_f H q18
              refine J.run b_M_firstOf_65_1 k_M_firstOf_65_1 rfl (show J w (d + 5) m_M_firstOf (n0, z0, some (.int z.1), mk c z.2) 68 [some (.ref 191), some (.int x1), some (.int x2), some (.int x3), some (.int (x4 + (1 : Int32)))] [] (mk c S16) from ?_)
              refine J.goto (tgt := 10) d_M_firstOf_68 rfl ?_
              refine J.mask [true, true, true, true, true] ?_
              exact ih S16 (x4 + (1 : Int32)) H
            · have H := ite_t H q18
              refine J.run b_M_firstOf_62_1 k_M_firstOf_62_1 rfl (show J w (d + 5) m_M_firstOf (n0, z0, some (.int z.1), mk c z.2) 64 [some (.ref 191), some (.int x1), some (.int x2), some (.int x3), some (.int x4)] [.int x4] (mk c S16) from ?_)
              obtain rfl := some_e H
              exact J.iret d_M_firstOf_64 rfl rfl
theorem c_M_firstOf (w : Wd) (d : Nat) (c : cx)   (S : hs) (x1 : Int32) (x2 : Int32)  {z : Int32 × hs} (H : f_M_firstOf S x1 x2 = some z) : Cl w (d + 5) m_M_firstOf [.ref 191, .int x1, .int x2] (mk c S) (some (.int z.1)) (mk c z.2) := by
  refine Cl.of (Nat.le_refl _) (Nat.le_refl _) (by decide +kernel) (Nat.le_of_ble_eq_true rfl) ?_
  unfold f_M_firstOf at H
  generalize hN (mk c S) = n0
  generalize hZ (mk c S) = z0
  show J w (d + 5) m_M_firstOf (n0, z0, some (.int z.1), mk c z.2) 0 [some (.ref 191), some (.int x1), some (.int x2), none, none] [] (mk c S)
  refine J.run b_M_firstOf_0_3 k_M_firstOf_0_3 rfl (show J w (d + 5) m_M_firstOf (n0, z0, some (.int z.1), mk c z.2) 3 [some (.ref 191), some (.int x1), some (.int x2), none, none] [.int x2, .int x1, .ref 191] (mk c S) from ?_)
  obtain ⟨r1, S2, h3, H⟩ := bd_e H
  refine J.callV (y := m_M_farOf) (av := [.int x1, .int x2]) (rest := []) (q := 191) l_M_284 d_M_firstOf_3 (isC_st rfl rfl) (c_M_farOf w (d + 0) c  S x1 x2 h3) rfl (Nat.le_of_ble_eq_true rfl) ⟨Nat.le_refl _, Nat.le_refl _⟩ (show J w (d + 5) m_M_firstOf (n0, z0, some (.int z.1), mk c z.2) 6 [some (.ref 191), some (.int x1), some (.int x2), none, none] [.int r1] (mk c S2) from ?_)
  refine J.run b_M_firstOf_6_3 k_M_firstOf_6_3 rfl (show J w (d + 5) m_M_firstOf (n0, z0, some (.int z.1), mk c z.2) 10 [some (.ref 191), some (.int x1), some (.int x2), some (.int r1), some (.int (0 : Int32))] [] (mk c S2) from ?_)
  refine J.mask [true, true, true, true, true] ?_
  refine lo_M_firstOf_10 w d c x1 x2 r1  1000 S2 (0 : Int32) H
def b_M_first_0_2 : List Ins := [(.aload_n 0, 0, 0, 0), (.iload_n 1, 0, 0, 0)]
theorem k_M_first_0_2 : bok m_M_first 0 b_M_first_0_2 = true := by decide +kernel
def b_M_first_24_1 : List Ins := [(.iconst (-1), 0, 0, 0)]
theorem k_M_first_24_1 : bok m_M_first 24 b_M_first_24_1 = true := by decide +kernel
def b_M_first_8_3 : List Ins := [(.aload_n 0, 0, 0, 0), (.iload_n 2, 0, 0, 0), (.iconst (1), 0, 0, 0)]
theorem k_M_first_8_3 : bok m_M_first 8 b_M_first_8_3 = true := by decide +kernel
def b_M_first_17_1 : List Ins := [(.iload_n 3, 0, 0, 0)]
theorem k_M_first_17_1 : bok m_M_first 17 b_M_first_17_1 = true := by decide +kernel
def b_M_first_26_3 : List Ins := [(.aload_n 0, 0, 0, 0), (.iload_n 3, 0, 0, 0), (.iconst (0), 0, 0, 0)]
theorem k_M_first_26_3 : bok m_M_first 26 b_M_first_26_3 = true := by decide +kernel
def b_M_first_32_3 : List Ins := [(.aload_n 0, 0, 0, 0), (.iload_n 1, 0, 0, 0), (.iload_n 2, 0, 0, 0)]
theorem k_M_first_32_3 : bok m_M_first 32 b_M_first_32_3 = true := by decide +kernel
def b_M_first_38_2 : List Ins := [(.istore 4, 0, 0, 0), (.iload 4, 0, 0, 0)]
theorem k_M_first_38_2 : bok m_M_first 38 b_M_first_38_2 = true := by decide +kernel
def b_M_first_50_1 : List Ins := [(.iload 4, 0, 0, 0)]
theorem k_M_first_50_1 : bok m_M_first 50 b_M_first_50_1 = true := by decide +kernel
def b_M_first_45_1 : List Ins := [(.bipush (-3), 0, 0, 0)]
theorem k_M_first_45_1 : bok m_M_first 45 b_M_first_45_1 = true := by decide +kernel
theorem d_M_first_2 : decode m_M_first.2.1 2 = .ok (.invokevirtual 123, 3) := by decide +kernel
theorem d_M_first_5 : decode m_M_first.2.1 5 = .ok (.ifCond .eq (19), 3) := by decide +kernel
theorem d_M_first_25 : decode m_M_first.2.1 25 = .ok (.ireturn, 1) := by decide +kernel
theorem d_M_first_11 : decode m_M_first.2.1 11 = .ok (.invokevirtual 120, 3) := by decide +kernel
theorem d_M_first_14 : decode m_M_first.2.1 14 = .ok (.ifCond .eq (10), 3) := by decide +kernel
theorem d_M_first_18 : decode m_M_first.2.1 18 = .ok (.invokestatic 175, 3) := by decide +kernel
theorem d_M_first_21 : decode m_M_first.2.1 21 = .ok (.ifCond .ne (5), 3) := by decide +kernel
theorem d_M_first_29 : decode m_M_first.2.1 29 = .ok (.invokevirtual 280, 3) := by decide +kernel
theorem d_M_first_35 : decode m_M_first.2.1 35 = .ok (.invokevirtual 287, 3) := by decide +kernel
theorem d_M_first_42 : decode m_M_first.2.1 42 = .ok (.ifCond .ge (8), 3) := by decide +kernel
theorem d_M_first_52 : decode m_M_first.2.1 52 = .ok (.ireturn, 1) := by decide +kernel
theorem d_M_first_47 : decode m_M_first.2.1 47 = .ok (.goto (5), 3) := by decide +kernel
def f_M_first  (S : hs) (x1 : Int32) (x2 : Int32) (x3 : Int32) : Option (Int32 × hs) := bd (f_M_isCourse  S x1) fun r1 S2 => (if r1 = 0 then some ((-1 : Int32), S2) else bd (f_M_is  S2 x2 (1 : Int32)) fun r5 S6 => (if r5 = 0 then some ((-1 : Int32), S6) else bd (f_M_isWidth  S6 x3) fun r9 S10 => (if r9 = 0 then some ((-1 : Int32), S10) else bd (f_M_findOnto  S10 x3 (0 : Int32)) fun r13 S14 => bd (f_M_firstOf  S14 x1 x2) fun r16 S17 => (if 0 ≤ r16 then some (r16, S17) else some ((-3 : Int32), S17)))))
theorem c_M_first (w : Wd) (d : Nat) (c : cx)   (S : hs) (x1 : Int32) (x2 : Int32) (x3 : Int32)  {z : Int32 × hs} (H : f_M_first S x1 x2 x3 = some z) : Cl w (d + 8) m_M_first [.ref 191, .int x1, .int x2, .int x3] (mk c S) (some (.int z.1)) (mk c z.2) := by
  refine Cl.of (Nat.le_refl _) (Nat.le_refl _) (by decide +kernel) (Nat.le_of_ble_eq_true rfl) ?_
  unfold f_M_first at H
  generalize hN (mk c S) = n0
  generalize hZ (mk c S) = z0
  show J w (d + 8) m_M_first (n0, z0, some (.int z.1), mk c z.2) 0 [some (.ref 191), some (.int x1), some (.int x2), some (.int x3), none] [] (mk c S)
  refine J.run b_M_first_0_2 k_M_first_0_2 rfl (show J w (d + 8) m_M_first (n0, z0, some (.int z.1), mk c z.2) 2 [some (.ref 191), some (.int x1), some (.int x2), some (.int x3), none] [.int x1, .ref 191] (mk c S) from ?_)
  obtain ⟨r1, S2, h3, H⟩ := bd_e H
  refine J.callV (y := m_M_isCourse) (av := [.int x1]) (rest := []) (q := 191) l_M_123 d_M_first_2 (isC_st rfl rfl) (c_M_isCourse w (d + 5) c  S x1 h3) rfl (Nat.le_of_ble_eq_true rfl) ⟨Nat.le_refl _, Nat.le_refl _⟩ (show J w (d + 8) m_M_first (n0, z0, some (.int z.1), mk c z.2) 5 [some (.ref 191), some (.int x1), some (.int x2), some (.int x3), none] [.int r1] (mk c S2) from ?_)
  refine J.zeq (tgt := 24) d_M_first_5 rfl (fun q4 => ?_) (fun q4 => ?_)
  · have H := ite_t H q4
    refine J.run b_M_first_24_1 k_M_first_24_1 rfl (show J w (d + 8) m_M_first (n0, z0, some (.int z.1), mk c z.2) 25 [some (.ref 191), some (.int x1), some (.int x2), some (.int x3), none] [.int (-1 : Int32)] (mk c S2) from ?_)
    obtain rfl := some_e H
    exact J.iret d_M_first_25 rfl rfl
  · have H := ite_f H q4
    refine J.run b_M_first_8_3 k_M_first_8_3 rfl (show J w (d + 8) m_M_first (n0, z0, some (.int z.1), mk c z.2) 11 [some (.ref 191), some (.int x1), some (.int x2), some (.int x3), none] [.int (1 : Int32), .int x2, .ref 191] (mk c S2) from ?_)
    obtain ⟨r5, S6, h7, H⟩ := bd_e H
    refine J.callV (y := m_M_is) (av := [.int x2, .int (1 : Int32)]) (rest := []) (q := 191) l_M_120 d_M_first_11 (isC_st rfl rfl) (c_M_is w (d + 5) c  S2 x2 (1 : Int32) h7) rfl (Nat.le_of_ble_eq_true rfl) ⟨Nat.le_refl _, Nat.le_refl _⟩ (show J w (d + 8) m_M_first (n0, z0, some (.int z.1), mk c z.2) 14 [some (.ref 191), some (.int x1), some (.int x2), some (.int x3), none] [.int r5] (mk c S6) from ?_)
    refine J.zeq (tgt := 24) d_M_first_14 rfl (fun q8 => ?_) (fun q8 => ?_)
    · have H := ite_t H q8
      refine J.run b_M_first_24_1 k_M_first_24_1 rfl (show J w (d + 8) m_M_first (n0, z0, some (.int z.1), mk c z.2) 25 [some (.ref 191), some (.int x1), some (.int x2), some (.int x3), none] [.int (-1 : Int32)] (mk c S6) from ?_)
      obtain rfl := some_e H
      exact J.iret d_M_first_25 rfl rfl
    · have H := ite_f H q8
      refine J.run b_M_first_17_1 k_M_first_17_1 rfl (show J w (d + 8) m_M_first (n0, z0, some (.int z.1), mk c z.2) 18 [some (.ref 191), some (.int x1), some (.int x2), some (.int x3), none] [.int x3] (mk c S6) from ?_)
      obtain ⟨r9, S10, h11, H⟩ := bd_e H
      refine J.callS (y := m_M_isWidth) (av := [.int x3]) (rest := []) l_M_175 d_M_first_18 (c_M_isWidth w (d + 5) c  S6 x3 h11) rfl (Nat.le_of_ble_eq_true rfl) ⟨Nat.le_refl _, Nat.le_refl _⟩ (show J w (d + 8) m_M_first (n0, z0, some (.int z.1), mk c z.2) 21 [some (.ref 191), some (.int x1), some (.int x2), some (.int x3), none] [.int r9] (mk c S10) from ?_)
      refine J.zne (tgt := 26) d_M_first_21 rfl (fun q12 => ?_) (fun q12 => ?_)
      · have H := ite_f H q12
        refine J.run b_M_first_26_3 k_M_first_26_3 rfl (show J w (d + 8) m_M_first (n0, z0, some (.int z.1), mk c z.2) 29 [some (.ref 191), some (.int x1), some (.int x2), some (.int x3), none] [.int (0 : Int32), .int x3, .ref 191] (mk c S10) from ?_)
        obtain ⟨r13, S14, h15, H⟩ := bd_e H
        refine J.callV (y := m_M_findOnto) (av := [.int x3, .int (0 : Int32)]) (rest := []) (q := 191) l_M_280 d_M_first_29 (isC_st rfl rfl) (c_M_findOnto w (d + 0) c  S10 x3 (0 : Int32) h15) rfl (Nat.le_of_ble_eq_true rfl) ⟨Nat.le_refl _, Nat.le_refl _⟩ (show J w (d + 8) m_M_first (n0, z0, some (.int z.1), mk c z.2) 32 [some (.ref 191), some (.int x1), some (.int x2), some (.int x3), none] [] (mk c S14) from ?_)
        refine J.run b_M_first_32_3 k_M_first_32_3 rfl (show J w (d + 8) m_M_first (n0, z0, some (.int z.1), mk c z.2) 35 [some (.ref 191), some (.int x1), some (.int x2), some (.int x3), none] [.int x2, .int x1, .ref 191] (mk c S14) from ?_)
        obtain ⟨r16, S17, h18, H⟩ := bd_e H
        refine J.callV (y := m_M_firstOf) (av := [.int x1, .int x2]) (rest := []) (q := 191) l_M_287 d_M_first_35 (isC_st rfl rfl) (c_M_firstOf w (d + 2) c  S14 x1 x2 h18) rfl (Nat.le_of_ble_eq_true rfl) ⟨Nat.le_refl _, Nat.le_refl _⟩ (show J w (d + 8) m_M_first (n0, z0, some (.int z.1), mk c z.2) 38 [some (.ref 191), some (.int x1), some (.int x2), some (.int x3), none] [.int r16] (mk c S17) from ?_)
        refine J.run b_M_first_38_2 k_M_first_38_2 rfl (show J w (d + 8) m_M_first (n0, z0, some (.int z.1), mk c z.2) 42 [some (.ref 191), some (.int x1), some (.int x2), some (.int x3), some (.int r16)] [.int r16] (mk c S17) from ?_)
        refine J.zge (tgt := 50) d_M_first_42 rfl (fun q19 => ?_) (fun q19 => ?_)
        · have H := ite_t H q19
          refine J.run b_M_first_50_1 k_M_first_50_1 rfl (show J w (d + 8) m_M_first (n0, z0, some (.int z.1), mk c z.2) 52 [some (.ref 191), some (.int x1), some (.int x2), some (.int x3), some (.int r16)] [.int r16] (mk c S17) from ?_)
          obtain rfl := some_e H
          exact J.iret d_M_first_52 rfl rfl
        · have H := ite_f H q19
          refine J.run b_M_first_45_1 k_M_first_45_1 rfl (show J w (d + 8) m_M_first (n0, z0, some (.int z.1), mk c z.2) 47 [some (.ref 191), some (.int x1), some (.int x2), some (.int x3), some (.int r16)] [.int (-3 : Int32)] (mk c S17) from ?_)
          refine J.goto (tgt := 52) d_M_first_47 rfl ?_
          obtain rfl := some_e H
          exact J.iret d_M_first_52 rfl rfl
      · have H := ite_t H q12
        refine J.run b_M_first_24_1 k_M_first_24_1 rfl (show J w (d + 8) m_M_first (n0, z0, some (.int z.1), mk c z.2) 25 [some (.ref 191), some (.int x1), some (.int x2), some (.int x3), none] [.int (-1 : Int32)] (mk c S10) from ?_)
        obtain rfl := some_e H
        exact J.iret d_M_first_25 rfl rfl
def b_M_findFree_0_2 : List Ins := [(.iconst (0), 0, 0, 0), (.istore_n 2, 0, 0, 0)]
theorem k_M_findFree_0_2 : bok m_M_findFree 0 b_M_findFree_0_2 = true := by decide +kernel
def b_M_findFree_2_2 : List Ins := [(.iload_n 2, 0, 0, 0), (.bipush (12), 0, 0, 0)]
theorem k_M_findFree_2_2 : bok m_M_findFree 2 b_M_findFree_2_2 = true := by decide +kernel
def b_M_findFree_8_5 : List Ins := [(.aload_n 0, 0, 0, 0), (.getfield 75, 11, 20, 2), (.iload_n 2, 0, 0, 0), (.iload_n 2, 0, 0, 0), (.iload_n 1, 0, 0, 0)]
theorem k_M_findFree_8_5 : bok m_M_findFree 8 b_M_findFree_8_5 = true := by decide +kernel
def b_M_findFree_22_3 : List Ins := [(.ldc_w 273, 0, 100000, 0), (.iastore, 0, 0, 0), (.iinc 2 (1), 0, 0, 0)]
theorem k_M_findFree_22_3 : bok m_M_findFree 22 b_M_findFree_22_3 = true := by decide +kernel
def b_M_findFree_18_1 : List Ins := [(.iconst (0), 0, 0, 0)]
theorem k_M_findFree_18_1 : bok m_M_findFree 18 b_M_findFree_18_1 = true := by decide +kernel
def b_M_findFree_25_2 : List Ins := [(.iastore, 0, 0, 0), (.iinc 2 (1), 0, 0, 0)]
theorem k_M_findFree_25_2 : bok m_M_findFree 25 b_M_findFree_25_2 = true := by decide +kernel
def b_M_findFree_32_2 : List Ins := [(.iconst (0), 0, 0, 0), (.istore_n 2, 0, 0, 0)]
theorem k_M_findFree_32_2 : bok m_M_findFree 32 b_M_findFree_32_2 = true := by decide +kernel
def b_M_findFree_34_2 : List Ins := [(.iload_n 2, 0, 0, 0), (.bipush (12), 0, 0, 0)]
theorem k_M_findFree_34_2 : bok m_M_findFree 34 b_M_findFree_34_2 = true := by decide +kernel
def b_M_findFree_40_2 : List Ins := [(.iconst (0), 0, 0, 0), (.istore_n 3, 0, 0, 0)]
theorem k_M_findFree_40_2 : bok m_M_findFree 40 b_M_findFree_40_2 = true := by decide +kernel
def b_M_findFree_42_2 : List Ins := [(.iload_n 3, 0, 0, 0), (.bipush (40), 0, 0, 0)]
theorem k_M_findFree_42_2 : bok m_M_findFree 42 b_M_findFree_42_2 = true := by decide +kernel
def b_M_findFree_48_2 : List Ins := [(.aload_n 0, 0, 0, 0), (.iload_n 3, 0, 0, 0)]
theorem k_M_findFree_48_2 : bok m_M_findFree 48 b_M_findFree_48_2 = true := by decide +kernel
def b_M_findFree_113_1 : List Ins := [(.iinc 3 (1), 0, 0, 0)]
theorem k_M_findFree_113_1 : bok m_M_findFree 113 b_M_findFree_113_1 = true := by decide +kernel
def b_M_findFree_56_4 : List Ins := [(.aload_n 0, 0, 0, 0), (.getfield 75, 11, 20, 2), (.aload_n 0, 0, 0, 0), (.iload_n 3, 0, 0, 0)]
theorem k_M_findFree_56_4 : bok m_M_findFree 56 b_M_findFree_56_4 = true := by decide +kernel
def b_M_findFree_65_2 : List Ins := [(.iaload, 0, 0, 0), (.ldc_w 273, 0, 100000, 0)]
theorem k_M_findFree_65_2 : bok m_M_findFree 65 b_M_findFree_65_2 = true := by decide +kernel
def b_M_findFree_72_4 : List Ins := [(.aload_n 0, 0, 0, 0), (.getfield 75, 11, 20, 2), (.aload_n 0, 0, 0, 0), (.iload_n 3, 0, 0, 0)]
theorem k_M_findFree_72_4 : bok m_M_findFree 72 b_M_findFree_72_4 = true := by decide +kernel
def b_M_findFree_81_4 : List Ins := [(.aload_n 0, 0, 0, 0), (.getfield 75, 11, 20, 2), (.aload_n 0, 0, 0, 0), (.iload_n 3, 0, 0, 0)]
theorem k_M_findFree_81_4 : bok m_M_findFree 81 b_M_findFree_81_4 = true := by decide +kernel
def b_M_findFree_90_5 : List Ins := [(.iaload, 0, 0, 0), (.aload_n 0, 0, 0, 0), (.getfield 75, 11, 20, 2), (.aload_n 0, 0, 0, 0), (.iload_n 3, 0, 0, 0)]
theorem k_M_findFree_90_5 : bok m_M_findFree 90 b_M_findFree_90_5 = true := by decide +kernel
def b_M_findFree_100_5 : List Ins := [(.iaload, 0, 0, 0), (.aload_n 0, 0, 0, 0), (.iload_n 3, 0, 0, 0), (.iconst (2), 0, 0, 0), (.idiv, 0, 0, 0)]
theorem k_M_findFree_100_5 : bok m_M_findFree 100 b_M_findFree_100_5 = true := by decide +kernel
def b_M_findFree_108_1 : List Ins := [(.iadd, 0, 0, 0)]
theorem k_M_findFree_108_1 : bok m_M_findFree 108 b_M_findFree_108_1 = true := by decide +kernel
def b_M_findFree_112_2 : List Ins := [(.iastore, 0, 0, 0), (.iinc 3 (1), 0, 0, 0)]
theorem k_M_findFree_112_2 : bok m_M_findFree 112 b_M_findFree_112_2 = true := by decide +kernel
def b_M_findFree_119_1 : List Ins := [(.iinc 2 (1), 0, 0, 0)]
theorem k_M_findFree_119_1 : bok m_M_findFree 119 b_M_findFree_119_1 = true := by decide +kernel
theorem d_M_findFree_5 : decode m_M_findFree.2.1 5 = .ok (.if_icmp .ge (27), 3) := by decide +kernel
theorem d_M_findFree_15 : decode m_M_findFree.2.1 15 = .ok (.if_icmp .ne (7), 3) := by decide +kernel
theorem d_M_findFree_29 : decode m_M_findFree.2.1 29 = .ok (.goto (-27), 3) := by decide +kernel
theorem d_M_findFree_19 : decode m_M_findFree.2.1 19 = .ok (.goto (6), 3) := by decide +kernel
theorem d_M_findFree_37 : decode m_M_findFree.2.1 37 = .ok (.if_icmp .ge (88), 3) := by decide +kernel
theorem d_M_findFree_125 : decode m_M_findFree.2.1 125 = .ok (.return_, 1) := by decide +kernel
theorem d_M_findFree_45 : decode m_M_findFree.2.1 45 = .ok (.if_icmp .ge (74), 3) := by decide +kernel
theorem d_M_findFree_50 : decode m_M_findFree.2.1 50 = .ok (.invokevirtual 123, 3) := by decide +kernel
theorem d_M_findFree_53 : decode m_M_findFree.2.1 53 = .ok (.ifCond .eq (60), 3) := by decide +kernel
theorem d_M_findFree_116 : decode m_M_findFree.2.1 116 = .ok (.goto (-74), 3) := by decide +kernel
theorem d_M_findFree_62 : decode m_M_findFree.2.1 62 = .ok (.invokevirtual 127, 3) := by decide +kernel
theorem d_M_findFree_69 : decode m_M_findFree.2.1 69 = .ok (.if_icmp .ge (44), 3) := by decide +kernel
theorem d_M_findFree_78 : decode m_M_findFree.2.1 78 = .ok (.invokevirtual 130, 3) := by decide +kernel
theorem d_M_findFree_87 : decode m_M_findFree.2.1 87 = .ok (.invokevirtual 130, 3) := by decide +kernel
theorem d_M_findFree_97 : decode m_M_findFree.2.1 97 = .ok (.invokevirtual 127, 3) := by decide +kernel
theorem d_M_findFree_105 : decode m_M_findFree.2.1 105 = .ok (.invokevirtual 142, 3) := by decide +kernel
theorem d_M_findFree_109 : decode m_M_findFree.2.1 109 = .ok (.invokestatic 290, 3) := by decide +kernel
theorem d_M_findFree_122 : decode m_M_findFree.2.1 122 = .ok (.goto (-88), 3) := by decide +kernel
def lp_M_findFree_2 (x1 : Int32)  (K0 : hs → Int32 → Option (Int32 × hs)) : Nat → hs → Int32 → Option (Int32 × hs)
  | 0, _, _ => none
  | n + 1, S, x2 => (if (12 : Int32) ≤ x2 then K0 S x2 else (if x2 = x1 then ck (inb x2 12) (lp_M_findFree_2 x1 K0 n (uI S 203 (x2).toNatClampNeg (0 : Int32)) (x2 + (1 : Int32))) else ck (inb x2 12) (lp_M_findFree_2 x1 K0 n (uI S 203 (x2).toNatClampNeg (100000 : Int32)) (x2 + (1 : Int32)))))
def lp_M_findFree_42 (x2 : Int32)  (K0 : hs → Int32 → Option (Int32 × hs)) : Nat → hs → Int32 → Option (Int32 × hs)
  | 0, _, _ => none
  | n + 1, S, x3 => (if (40 : Int32) ≤ x3 then K0 S x3 else bd (f_M_isCourse  S x3) fun r9 S10 => (if r9 = 0 then lp_M_findFree_42 x2 K0 n S10 (x3 + (1 : Int32)) else bd (f_M_beginOf  S10 x3) fun r13 S14 => ck (inb r13 12) ((if (100000 : Int32) ≤ (gI S14 203 (r13).toNatClampNeg) then lp_M_findFree_42 x2 K0 n S14 (x3 + (1 : Int32)) else bd (f_M_endOf  S14 x3) fun r18 S19 => bd (f_M_endOf  S19 x3) fun r21 S22 => ck (inb r21 12) (bd (f_M_beginOf  S22 x3) fun r25 S26 => ck (inb r25 12) (bd (f_M_longOf  S26 (x3 / (2 : Int32))) fun r29 S30 => bd (f_Ma_min  S30 (gI S22 203 (r21).toNatClampNeg) ((gI S26 203 (r25).toNatClampNeg) + r29)) fun r32 S33 => ck (inb r18 12) (lp_M_findFree_42 x2 K0 n (uI S33 203 (r18).toNatClampNeg r32) (x3 + (1 : Int32)))))))))
def lp_M_findFree_34    : Nat → hs → Int32 → Option (Int32 × hs)
  | 0, _, _ => none
  | n + 1, S, x2 => (if (12 : Int32) ≤ x2 then some ((0 : Int32), S) else lp_M_findFree_42 x2 (fun (S36 : hs) (y37 : Int32) => lp_M_findFree_34  n S36 (x2 + (1 : Int32))) 1000 S (0 : Int32))
def f_M_findFree  (S : hs) (x1 : Int32) : Option (Int32 × hs) := lp_M_findFree_2 x1 (fun (S5 : hs) (y6 : Int32) => lp_M_findFree_34  1000 S5 (0 : Int32)) 1000 S (0 : Int32)
theorem lo_M_findFree_2 (w : Wd) (d : Nat) (c : cx) {n0 z0 : Nat} {z : Int32 × hs}  {K0 : hs → Int32 → Option (Int32 × hs)} (x1 : Int32)   (hK0 : ∀ (S : hs) (x2 : Int32), K0 S x2 = some z → J w (d + 3) m_M_findFree (n0, z0, none, mk c z.2) 32 [some (.ref 191), none, none, none] [] (mk c S)) :
    ∀ (n : Nat) (S : hs) (x2 : Int32), lp_M_findFree_2 x1 K0 n S x2 = some z → J w (d + 3) m_M_findFree (n0, z0, none, mk c z.2) 2 [some (.ref 191), some (.int x1), some (.int x2), none] [] (mk c S) := by
  intro n
  induction n with
  | zero => intro S x2 H; cases H
  | succ n ih =>
    intro S x2 H
    rw [lp_M_findFree_2] at H
    refine J.run b_M_findFree_2_2 k_M_findFree_2_2 rfl (show J w (d + 3) m_M_findFree (n0, z0, none, mk c z.2) 5 [some (.ref 191), some (.int x1), some (.int x2), none] [.int (12 : Int32), .int x2] (mk c S) from ?_)
    refine J.cge (tgt := 32) d_M_findFree_5 rfl (fun q1 => ?_) (fun q1 => ?_)
    · have H := ite_t H q1
      refine J.mask [true, false, false, false] ?_
      exact hK0 S x2 H
    · have H := ite_f H q1
      refine J.run b_M_findFree_8_5 k_M_findFree_8_5 rfl (And.intro (okO_st (S := S) rfl) (show J w (d + 3) m_M_findFree (n0, z0, none, mk c z.2) 15 [some (.ref 191), some (.int x1), some (.int x2), none] [.int x1, .int x2, .int x2, .ref 203] (mk c S) from ?_))
      refine J.cne (tgt := 22) d_M_findFree_15 rfl (fun q2 => ?_) (fun q2 => ?_)
      · have H := ite_f H q2
        obtain ⟨g3, H⟩ := ck_e H
        refine J.run b_M_findFree_22_3 k_M_findFree_22_3 rfl (And.intro (okB_st (S := S) (n := 12) rfl g3) (show J w (d + 3) m_M_findFree (n0, z0, none, mk c z.2) 29 [some (.ref 191), some (.int x1), some (.int (x2 + (1 : Int32))), none] [] (mk c (uI S 203 (x2).toNatClampNeg (100000 : Int32))) from ?_))
        refine J.goto (tgt := 2) d_M_findFree_29 rfl ?_
        refine J.mask [true, true, true, false] ?_
        exact ih (uI S 203 (x2).toNatClampNeg (100000 : Int32)) (x2 + (1 : Int32)) H
      · have H := ite_t H q2
        refine J.run b_M_findFree_18_1 k_M_findFree_18_1 rfl (show J w (d + 3) m_M_findFree (n0, z0, none, mk c z.2) 19 [some (.ref 191), some (.int x1), some (.int x2), none] [.int (0 : Int32), .int x2, .ref 203] (mk c S) from ?_)
        refine J.goto (tgt := 25) d_M_findFree_19 rfl ?_
        obtain ⟨g4, H⟩ := ck_e H
        refine J.run b_M_findFree_25_2 k_M_findFree_25_2 rfl (And.intro (okB_st (S := S) (n := 12) rfl g4) (show J w (d + 3) m_M_findFree (n0, z0, none, mk c z.2) 29 [some (.ref 191), some (.int x1), some (.int (x2 + (1 : Int32))), none] [] (mk c (uI S 203 (x2).toNatClampNeg (0 : Int32))) from ?_))
        refine J.goto (tgt := 2) d_M_findFree_29 rfl ?_
        refine J.mask [true, true, true, false] ?_
        exact ih (uI S 203 (x2).toNatClampNeg (0 : Int32)) (x2 + (1 : Int32)) H
theorem lo_M_findFree_42 (w : Wd) (d : Nat) (c : cx) {n0 z0 : Nat} {z : Int32 × hs}  {K0 : hs → Int32 → Option (Int32 × hs)} (x2 : Int32)   (hK0 : ∀ (S : hs) (x3 : Int32), K0 S x3 = some z → J w (d + 3) m_M_findFree (n0, z0, none, mk c z.2) 119 [some (.ref 191), none, some (.int x2), none] [] (mk c S)) :
    ∀ (n : Nat) (S : hs) (x3 : Int32), lp_M_findFree_42 x2 K0 n S x3 = some z → J w (d + 3) m_M_findFree (n0, z0, none, mk c z.2) 42 [some (.ref 191), none, some (.int x2), some (.int x3)] [] (mk c S) := by
  intro n
  induction n with
  | zero => intro S x3 H; cases H
  | succ n ih =>
    intro S x3 H
    rw [lp_M_findFree_42] at H
    refine J.run b_M_findFree_42_2 k_M_findFree_42_2 rfl (show J w (d + 3) m_M_findFree (n0, z0, none, mk c z.2) 45 [some (.ref 191), none, some (.int x2), some (.int x3)] [.int (40 : Int32), .int x3] (mk c S) from ?_)
    refine J.cge (tgt := 119) d_M_findFree_45 rfl (fun q8 => ?_) (fun q8 => ?_)
    · have H := ite_t H q8
      refine J.mask [true, false, true, false] ?_
      exact hK0 S x3 H
    · have H := ite_f H q8
      refine J.run b_M_findFree_48_2 k_M_findFree_48_2 rfl (show J w (d + 3) m_M_findFree (n0, z0, none, mk c z.2) 50 [some (.ref 191), none, some (.int x2), some (.int x3)] [.int x3, .ref 191] (mk c S) from ?_)
      obtain ⟨r9, S10, h11, H⟩ := bd_e H
      refine J.callV (y := m_M_isCourse) (av := [.int x3]) (rest := []) (q := 191) l_M_123 d_M_findFree_50 (isC_st rfl rfl) (c_M_isCourse w (d + 0) c  S x3 h11) rfl (Nat.le_of_ble_eq_true rfl) ⟨Nat.le_refl _, Nat.le_refl _⟩ (show J w (d + 3) m_M_findFree (n0, z0, none, mk c z.2) 53 [some (.ref 191), none, some (.int x2), some (.int x3)] [.int r9] (mk c S10) from ?_)
      refine J.zeq (tgt := 113) d_M_findFree_53 rfl (fun q12 => ?_) (fun q12 => ?_)
      · have H := ite_t H q12
        refine J.run b_M_findFree_113_1 k_M_findFree_113_1 rfl (show J w (d + 3) m_M_findFree (n0, z0, none, mk c z.2) 116 [some (.ref 191), none, some (.int x2), some (.int (x3 + (1 : Int32)))] [] (mk c S10) from ?_)
        refine J.goto (tgt := 42) d_M_findFree_116 rfl ?_
        refine J.mask [true, false, true, true] ?_
        exact ih S10 (x3 + (1 : Int32)) H
      · have H := ite_f H q12
        refine J.run b_M_findFree_56_4 k_M_findFree_56_4 rfl (And.intro (okO_st (S := S10) rfl) (show J w (d + 3) m_M_findFree (n0, z0, none, mk c z.2) 62 [some (.ref 191), none, some (.int x2), some (.int x3)] [.int x3, .ref 191, .ref 203] (mk c S10) from ?_))
        obtain ⟨r13, S14, h15, H⟩ := bd_e H
        refine J.callV (y := m_M_beginOf) (av := [.int x3]) (rest := [.ref 203]) (q := 191) l_M_127 d_M_findFree_62 (isC_st rfl rfl) (c_M_beginOf w (d + 0) c  S10 x3 h15) rfl (Nat.le_of_ble_eq_true rfl) ⟨Nat.le_refl _, Nat.le_refl _⟩ (show J w (d + 3) m_M_findFree (n0, z0, none, mk c z.2) 65 [some (.ref 191), none, some (.int x2), some (.int x3)] [.int r13, .ref 203] (mk c S14) from ?_)
        obtain ⟨g16, H⟩ := ck_e H
        refine J.run b_M_findFree_65_2 k_M_findFree_65_2 rfl (And.intro (okA_st (S := S14) (n := 12) rfl g16) (show J w (d + 3) m_M_findFree (n0, z0, none, mk c z.2) 69 [some (.ref 191), none, some (.int x2), some (.int x3)] [.int (100000 : Int32), .int (gI S14 203 (r13).toNatClampNeg)] (mk c S14) from ?_))
        refine J.cge (tgt := 113) d_M_findFree_69 rfl (fun q17 => ?_) (fun q17 => ?_)
        · have H := ite_t H q17
          refine J.run b_M_findFree_113_1 k_M_findFree_113_1 rfl (show J w (d + 3) m_M_findFree (n0, z0, none, mk c z.2) 116 [some (.ref 191), none, some (.int x2), some (.int (x3 + (1 : Int32)))] [] (mk c S14) from ?_)
          refine J.goto (tgt := 42) d_M_findFree_116 rfl ?_
          refine J.mask [true, false, true, true] ?_
          exact ih S14 (x3 + (1 : Int32)) H
        · have H := ite_f H q17
          refine J.run b_M_findFree_72_4 k_M_findFree_72_4 rfl (And.intro (okO_st (S := S14) rfl) (show J w (d + 3) m_M_findFree (n0, z0, none, mk c z.2) 78 [some (.ref 191), none, some (.int x2), some (.int x3)] [.int x3, .ref 191, .ref 203] (mk c S14) from ?_))
          obtain ⟨r18, S19, h20, H⟩ := bd_e H
          refine J.callV (y := m_M_endOf) (av := [.int x3]) (rest := [.ref 203]) (q := 191) l_M_130 d_M_findFree_78 (isC_st rfl rfl) (c_M_endOf w (d + 0) c  S14 x3 h20) rfl (Nat.le_of_ble_eq_true rfl) ⟨Nat.le_refl _, Nat.le_refl _⟩ (show J w (d + 3) m_M_findFree (n0, z0, none, mk c z.2) 81 [some (.ref 191), none, some (.int x2), some (.int x3)] [.int r18, .ref 203] (mk c S19) from ?_)
          refine J.run b_M_findFree_81_4 k_M_findFree_81_4 rfl (And.intro (okO_st (S := S19) rfl) (show J w (d + 3) m_M_findFree (n0, z0, none, mk c z.2) 87 [some (.ref 191), none, some (.int x2), some (.int x3)] [.int x3, .ref 191, .ref 203, .int r18, .ref 203] (mk c S19) from ?_))
          obtain ⟨r21, S22, h23, H⟩ := bd_e H
          refine J.callV (y := m_M_endOf) (av := [.int x3]) (rest := [.ref 203, .int r18, .ref 203]) (q := 191) l_M_130 d_M_findFree_87 (isC_st rfl rfl) (c_M_endOf w (d + 0) c  S19 x3 h23) rfl (Nat.le_of_ble_eq_true rfl) ⟨Nat.le_refl _, Nat.le_refl _⟩ (show J w (d + 3) m_M_findFree (n0, z0, none, mk c z.2) 90 [some (.ref 191), none, some (.int x2), some (.int x3)] [.int r21, .ref 203, .int r18, .ref 203] (mk c S22) from ?_)
          obtain ⟨g24, H⟩ := ck_e H
          refine J.run b_M_findFree_90_5 k_M_findFree_90_5 rfl (And.intro (okA_st (S := S22) (n := 12) rfl g24) (And.intro (okO_st (S := S22) rfl) (show J w (d + 3) m_M_findFree (n0, z0, none, mk c z.2) 97 [some (.ref 191), none, some (.int x2), some (.int x3)] [.int x3, .ref 191, .ref 203, .int (gI S22 203 (r21).toNatClampNeg), .int r18, .ref 203] (mk c S22) from ?_)))
          obtain ⟨r25, S26, h27, H⟩ := bd_e H
          refine J.callV (y := m_M_beginOf) (av := [.int x3]) (rest := [.ref 203, .int (gI S22 203 (r21).toNatClampNeg), .int r18, .ref 203]) (q := 191) l_M_127 d_M_findFree_97 (isC_st rfl rfl) (c_M_beginOf w (d + 0) c  S22 x3 h27) rfl (Nat.le_of_ble_eq_true rfl) ⟨Nat.le_refl _, Nat.le_refl _⟩ (show J w (d + 3) m_M_findFree (n0, z0, none, mk c z.2) 100 [some (.ref 191), none, some (.int x2), some (.int x3)] [.int r25, .ref 203, .int (gI S22 203 (r21).toNatClampNeg), .int r18, .ref 203] (mk c S26) from ?_)
          obtain ⟨g28, H⟩ := ck_e H
          refine J.run b_M_findFree_100_5 k_M_findFree_100_5 rfl (And.intro (okA_st (S := S26) (n := 12) rfl g28) (And.intro (by decide) (show J w (d + 3) m_M_findFree (n0, z0, none, mk c z.2) 105 [some (.ref 191), none, some (.int x2), some (.int x3)] [.int (x3 / (2 : Int32)), .ref 191, .int (gI S26 203 (r25).toNatClampNeg), .int (gI S22 203 (r21).toNatClampNeg), .int r18, .ref 203] (mk c S26) from ?_)))
          obtain ⟨r29, S30, h31, H⟩ := bd_e H
          refine J.callV (y := m_M_longOf) (av := [.int (x3 / (2 : Int32))]) (rest := [.int (gI S26 203 (r25).toNatClampNeg), .int (gI S22 203 (r21).toNatClampNeg), .int r18, .ref 203]) (q := 191) l_M_142 d_M_findFree_105 (isC_st rfl rfl) (c_M_longOf w (d + 0) c  S26 (x3 / (2 : Int32)) h31) rfl (Nat.le_of_ble_eq_true rfl) ⟨Nat.le_refl _, Nat.le_refl _⟩ (show J w (d + 3) m_M_findFree (n0, z0, none, mk c z.2) 108 [some (.ref 191), none, some (.int x2), some (.int x3)] [.int r29, .int (gI S26 203 (r25).toNatClampNeg), .int (gI S22 203 (r21).toNatClampNeg), .int r18, .ref 203] (mk c S30) from ?_)
          refine J.run b_M_findFree_108_1 k_M_findFree_108_1 rfl (show J w (d + 3) m_M_findFree (n0, z0, none, mk c z.2) 109 [some (.ref 191), none, some (.int x2), some (.int x3)] [.int ((gI S26 203 (r25).toNatClampNeg) + r29), .int (gI S22 203 (r21).toNatClampNeg), .int r18, .ref 203] (mk c S30) from ?_)
          obtain ⟨r32, S33, h34, H⟩ := bd_e H
          refine J.callS (y := m_Ma_min) (av := [.int (gI S22 203 (r21).toNatClampNeg), .int ((gI S26 203 (r25).toNatClampNeg) + r29)]) (rest := [.int r18, .ref 203]) l_M_290 d_M_findFree_109 (c_Ma_min w (d + 1) c  S30 (gI S22 203 (r21).toNatClampNeg) ((gI S26 203 (r25).toNatClampNeg) + r29) h34) rfl (Nat.le_of_ble_eq_true rfl) ⟨Nat.le_refl _, Nat.le_refl _⟩ (show J w (d + 3) m_M_findFree (n0, z0, none, mk c z.2) 112 [some (.ref 191), none, some (.int x2), some (.int x3)] [.int r32, .int r18, .ref 203] (mk c S33) from ?_)
          obtain ⟨g35, H⟩ := ck_e H
          refine J.run b_M_findFree_112_2 k_M_findFree_112_2 rfl (And.intro (okB_st (S := S33) (n := 12) rfl g35) (show J w (d + 3) m_M_findFree (n0, z0, none, mk c z.2) 116 [some (.ref 191), none, some (.int x2), some (.int (x3 + (1 : Int32)))] [] (mk c (uI S33 203 (r18).toNatClampNeg r32)) from ?_))
          refine J.goto (tgt := 42) d_M_findFree_116 rfl ?_
          refine J.mask [true, false, true, true] ?_
          exact ih (uI S33 203 (r18).toNatClampNeg r32) (x3 + (1 : Int32)) H
theorem lo_M_findFree_34 (w : Wd) (d : Nat) (c : cx) {n0 z0 : Nat} {z : Int32 × hs}       :
    ∀ (n : Nat) (S : hs) (x2 : Int32), lp_M_findFree_34  n S x2 = some z → J w (d + 3) m_M_findFree (n0, z0, none, mk c z.2) 34 [some (.ref 191), none, some (.int x2), none] [] (mk c S) := by
  intro n
  induction n with
  | zero => intro S x2 H; cases H
  | succ n ih =>
    intro S x2 H
    rw [lp_M_findFree_34] at H
    refine J.run b_M_findFree_34_2 k_M_findFree_34_2 rfl (show J w (d + 3) m_M_findFree (n0, z0, none, mk c z.2) 37 [some (.ref 191), none, some (.int x2), none] [.int (12 : Int32), .int x2] (mk c S) from ?_)
    refine J.cge (tgt := 125) d_M_findFree_37 rfl (fun q7 => ?_) (fun q7 => ?_)
    · have H := ite_t H q7
      obtain rfl := some_e H
      exact J.vret d_M_findFree_125 rfl rfl
    · have H := ite_f H q7
      refine J.run b_M_findFree_40_2 k_M_findFree_40_2 rfl (show J w (d + 3) m_M_findFree (n0, z0, none, mk c z.2) 42 [some (.ref 191), none, some (.int x2), some (.int (0 : Int32))] [] (mk c S) from ?_)
      refine J.mask [true, false, true, true] ?_
      refine lo_M_findFree_42 w d c x2 ?_ 1000 S (0 : Int32) H
      · intro S36 y37 H
        try dsimp only at H
        refine J.run b_M_findFree_119_1 k_M_findFree_119_1 rfl (show J w (d + 3) m_M_findFree (n0, z0, none, mk c z.2) 122 [some (.ref 191), none, some (.int (x2 + (1 : Int32))), none] [] (mk c S36) from ?_)
        refine J.goto (tgt := 34) d_M_findFree_122 rfl ?_
        refine J.mask [true, false, true, false] ?_
        exact ih S36 (x2 + (1 : Int32)) H
theorem c_M_findFree (w : Wd) (d : Nat) (c : cx)   (S : hs) (x1 : Int32)  {z : Int32 × hs} (H : f_M_findFree S x1 = some z) : Cl w (d + 3) m_M_findFree [.ref 191, .int x1] (mk c S) (none) (mk c z.2) := by
  refine Cl.of (Nat.le_refl _) (Nat.le_refl _) (by decide +kernel) (Nat.le_of_ble_eq_true rfl) ?_
  unfold f_M_findFree at H
  generalize hN (mk c S) = n0
  generalize hZ (mk c S) = z0
  show J w (d + 3) m_M_findFree (n0, z0, none, mk c z.2) 0 [some (.ref 191), some (.int x1), none, none] [] (mk c S)
  refine J.run b_M_findFree_0_2 k_M_findFree_0_2 rfl (show J w (d + 3) m_M_findFree (n0, z0, none, mk c z.2) 2 [some (.ref 191), some (.int x1), some (.int (0 : Int32)), none] [] (mk c S) from ?_)
  refine J.mask [true, true, true, false] ?_
  refine lo_M_findFree_2 w d c x1 ?_ 1000 S (0 : Int32) H
  · intro S5 y6 H
    try dsimp only at H
    refine J.run b_M_findFree_32_2 k_M_findFree_32_2 rfl (show J w (d + 3) m_M_findFree (n0, z0, none, mk c z.2) 34 [some (.ref 191), none, some (.int (0 : Int32)), none] [] (mk c S5) from ?_)
    refine J.mask [true, false, true, false] ?_
    refine lo_M_findFree_34 w d c   1000 S5 (0 : Int32) H
def b_M_free_0_3 : List Ins := [(.aload_n 0, 0, 0, 0), (.iload_n 1, 0, 0, 0), (.iconst (1), 0, 0, 0)]
theorem k_M_free_0_3 : bok m_M_free 0 b_M_free_0_3 = true := by decide +kernel
def b_M_free_18_1 : List Ins := [(.iconst (-1), 0, 0, 0)]
theorem k_M_free_18_1 : bok m_M_free 18 b_M_free_18_1 = true := by decide +kernel
def b_M_free_9_3 : List Ins := [(.aload_n 0, 0, 0, 0), (.iload_n 2, 0, 0, 0), (.iconst (1), 0, 0, 0)]
theorem k_M_free_9_3 : bok m_M_free 9 b_M_free_9_3 = true := by decide +kernel
def b_M_free_20_2 : List Ins := [(.aload_n 0, 0, 0, 0), (.iload_n 1, 0, 0, 0)]
theorem k_M_free_20_2 : bok m_M_free 20 b_M_free_20_2 = true := by decide +kernel
def b_M_free_25_5 : List Ins := [(.aload_n 0, 0, 0, 0), (.getfield 75, 11, 20, 2), (.iload_n 2, 0, 0, 0), (.iaload, 0, 0, 0), (.ldc_w 273, 0, 100000, 0)]
theorem k_M_free_25_5 : bok m_M_free 25 b_M_free_25_5 = true := by decide +kernel
def b_M_free_42_4 : List Ins := [(.aload_n 0, 0, 0, 0), (.getfield 75, 11, 20, 2), (.iload_n 2, 0, 0, 0), (.iaload, 0, 0, 0)]
theorem k_M_free_42_4 : bok m_M_free 42 b_M_free_42_4 = true := by decide +kernel
def b_M_free_37_1 : List Ins := [(.bipush (-3), 0, 0, 0)]
theorem k_M_free_37_1 : bok m_M_free 37 b_M_free_37_1 = true := by decide +kernel
theorem d_M_free_3 : decode m_M_free.2.1 3 = .ok (.invokevirtual 120, 3) := by decide +kernel
theorem d_M_free_6 : decode m_M_free.2.1 6 = .ok (.ifCond .eq (12), 3) := by decide +kernel
theorem d_M_free_19 : decode m_M_free.2.1 19 = .ok (.ireturn, 1) := by decide +kernel
theorem d_M_free_12 : decode m_M_free.2.1 12 = .ok (.invokevirtual 120, 3) := by decide +kernel
theorem d_M_free_15 : decode m_M_free.2.1 15 = .ok (.ifCond .ne (5), 3) := by decide +kernel
theorem d_M_free_22 : decode m_M_free.2.1 22 = .ok (.invokevirtual 293, 3) := by decide +kernel
theorem d_M_free_34 : decode m_M_free.2.1 34 = .ok (.if_icmp .lt (8), 3) := by decide +kernel
theorem d_M_free_48 : decode m_M_free.2.1 48 = .ok (.ireturn, 1) := by decide +kernel
theorem d_M_free_39 : decode m_M_free.2.1 39 = .ok (.goto (9), 3) := by decide +kernel
def f_M_free  (S : hs) (x1 : Int32) (x2 : Int32) : Option (Int32 × hs) := bd (f_M_is  S x1 (1 : Int32)) fun r1 S2 => (if r1 = 0 then some ((-1 : Int32), S2) else bd (f_M_is  S2 x2 (1 : Int32)) fun r5 S6 => (if r5 = 0 then some ((-1 : Int32), S6) else bd (f_M_findFree  S6 x1) fun r9 S10 => ck (inb x2 12) ((if (gI S10 203 (x2).toNatClampNeg) < (100000 : Int32) then some ((gI S10 203 (x2).toNatClampNeg), S10) else some ((-3 : Int32), S10)))))
theorem c_M_free (w : Wd) (d : Nat) (c : cx)   (S : hs) (x1 : Int32) (x2 : Int32)  {z : Int32 × hs} (H : f_M_free S x1 x2 = some z) : Cl w (d + 4) m_M_free [.ref 191, .int x1, .int x2] (mk c S) (some (.int z.1)) (mk c z.2) := by
  refine Cl.of (Nat.le_refl _) (Nat.le_refl _) (by decide +kernel) (Nat.le_of_ble_eq_true rfl) ?_
  unfold f_M_free at H
  generalize hN (mk c S) = n0
  generalize hZ (mk c S) = z0
  show J w (d + 4) m_M_free (n0, z0, some (.int z.1), mk c z.2) 0 [some (.ref 191), some (.int x1), some (.int x2)] [] (mk c S)
  refine J.run b_M_free_0_3 k_M_free_0_3 rfl (show J w (d + 4) m_M_free (n0, z0, some (.int z.1), mk c z.2) 3 [some (.ref 191), some (.int x1), some (.int x2)] [.int (1 : Int32), .int x1, .ref 191] (mk c S) from ?_)
  obtain ⟨r1, S2, h3, H⟩ := bd_e H
  refine J.callV (y := m_M_is) (av := [.int x1, .int (1 : Int32)]) (rest := []) (q := 191) l_M_120 d_M_free_3 (isC_st rfl rfl) (c_M_is w (d + 1) c  S x1 (1 : Int32) h3) rfl (Nat.le_of_ble_eq_true rfl) ⟨Nat.le_refl _, Nat.le_refl _⟩ (show J w (d + 4) m_M_free (n0, z0, some (.int z.1), mk c z.2) 6 [some (.ref 191), some (.int x1), some (.int x2)] [.int r1] (mk c S2) from ?_)
  refine J.zeq (tgt := 18) d_M_free_6 rfl (fun q4 => ?_) (fun q4 => ?_)
  · have H := ite_t H q4
    refine J.run b_M_free_18_1 k_M_free_18_1 rfl (show J w (d + 4) m_M_free (n0, z0, some (.int z.1), mk c z.2) 19 [some (.ref 191), some (.int x1), some (.int x2)] [.int (-1 : Int32)] (mk c S2) from ?_)
    obtain rfl := some_e H
    exact J.iret d_M_free_19 rfl rfl
  · have H := ite_f H q4
    refine J.run b_M_free_9_3 k_M_free_9_3 rfl (show J w (d + 4) m_M_free (n0, z0, some (.int z.1), mk c z.2) 12 [some (.ref 191), some (.int x1), some (.int x2)] [.int (1 : Int32), .int x2, .ref 191] (mk c S2) from ?_)
    obtain ⟨r5, S6, h7, H⟩ := bd_e H
    refine J.callV (y := m_M_is) (av := [.int x2, .int (1 : Int32)]) (rest := []) (q := 191) l_M_120 d_M_free_12 (isC_st rfl rfl) (c_M_is w (d + 1) c  S2 x2 (1 : Int32) h7) rfl (Nat.le_of_ble_eq_true rfl) ⟨Nat.le_refl _, Nat.le_refl _⟩ (show J w (d + 4) m_M_free (n0, z0, some (.int z.1), mk c z.2) 15 [some (.ref 191), some (.int x1), some (.int x2)] [.int r5] (mk c S6) from ?_)
    refine J.zne (tgt := 20) d_M_free_15 rfl (fun q8 => ?_) (fun q8 => ?_)
    · have H := ite_f H q8
      refine J.run b_M_free_20_2 k_M_free_20_2 rfl (show J w (d + 4) m_M_free (n0, z0, some (.int z.1), mk c z.2) 22 [some (.ref 191), some (.int x1), some (.int x2)] [.int x1, .ref 191] (mk c S6) from ?_)
      obtain ⟨r9, S10, h11, H⟩ := bd_e H
      refine J.callV (y := m_M_findFree) (av := [.int x1]) (rest := []) (q := 191) l_M_293 d_M_free_22 (isC_st rfl rfl) (c_M_findFree w (d + 0) c  S6 x1 h11) rfl (Nat.le_of_ble_eq_true rfl) ⟨Nat.le_refl _, Nat.le_refl _⟩ (show J w (d + 4) m_M_free (n0, z0, some (.int z.1), mk c z.2) 25 [some (.ref 191), some (.int x1), some (.int x2)] [] (mk c S10) from ?_)
      obtain ⟨g12, H⟩ := ck_e H
      refine J.run b_M_free_25_5 k_M_free_25_5 rfl (And.intro (okO_st (S := S10) rfl) (And.intro (okA_st (S := S10) (n := 12) rfl g12) (show J w (d + 4) m_M_free (n0, z0, some (.int z.1), mk c z.2) 34 [some (.ref 191), some (.int x1), some (.int x2)] [.int (100000 : Int32), .int (gI S10 203 (x2).toNatClampNeg)] (mk c S10) from ?_)))
      refine J.clt (tgt := 42) d_M_free_34 rfl (fun q13 => ?_) (fun q13 => ?_)
      · have H := ite_t H q13
        refine J.run b_M_free_42_4 k_M_free_42_4 rfl (And.intro (okO_st (S := S10) rfl) (And.intro (okA_st (S := S10) (n := 12) rfl g12) (show J w (d + 4) m_M_free (n0, z0, some (.int z.1), mk c z.2) 48 [some (.ref 191), some (.int x1), some (.int x2)] [.int (gI S10 203 (x2).toNatClampNeg)] (mk c S10) from ?_)))
        obtain rfl := some_e H
        exact J.iret d_M_free_48 rfl rfl
      · have H := ite_f H q13
        refine J.run b_M_free_37_1 k_M_free_37_1 rfl (show J w (d + 4) m_M_free (n0, z0, some (.int z.1), mk c z.2) 39 [some (.ref 191), some (.int x1), some (.int x2)] [.int (-3 : Int32)] (mk c S10) from ?_)
        refine J.goto (tgt := 48) d_M_free_39 rfl ?_
        obtain rfl := some_e H
        exact J.iret d_M_free_48 rfl rfl
    · have H := ite_t H q8
      refine J.run b_M_free_18_1 k_M_free_18_1 rfl (show J w (d + 4) m_M_free (n0, z0, some (.int z.1), mk c z.2) 19 [some (.ref 191), some (.int x1), some (.int x2)] [.int (-1 : Int32)] (mk c S6) from ?_)
      obtain rfl := some_e H
      exact J.iret d_M_free_19 rfl rfl
