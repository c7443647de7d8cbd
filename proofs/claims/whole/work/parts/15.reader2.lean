/-! LawReader, the rest -/
def fx_rc : Nat → hs → Int32 → Option (Int32 × hs)
  | 0, _, _ => none
  | n + 1, S, x1 => f_R_readCond (fx_rc n) S x1
theorem rc_T (w : Wd) (c : cx) : ∀ (n D : Nat), 12 * n ≤ D → ∀ (S : hs) (x1 : Int32) (z : Int32 × hs), fx_rc n S x1 = some z → Cl w D m_R_readCond [.ref 128, .int x1] (mk c S) (some (.int z.1)) (mk c z.2)
  | 0, _, _, _, _, z, H => by cases H
  | n + 1, D, hD, S, x1, z, H => by
    obtain ⟨e, rfl⟩ : ∃ e, D = e + 5 := ⟨D - 5, by omega⟩
    exact c_R_readCond w e c (fun D' h' => rc_T w c n D' (by omega)) S x1 H
theorem rc_close (w : Wd) (d : Nat) (hd : 60 ≤ d) (c : cx) : ∀ (D : Nat), d ≤ D → ∀ (S : hs) (x1 : Int32) (z : Int32 × hs), fx_rc 5 S x1 = some z → Cl w D m_R_readCond [.ref 128, .int x1] (mk c S) (some (.int z.1)) (mk c z.2) :=
  fun D h => rc_T w c 5 D (by omega)

def b_A_addClause_0_3 : List Ins := [(.aload_n 0, 0, 0, 0), (.getfield 27, 2, 5, 0), (.bipush (8), 0, 0, 0)]
theorem k_A_addClause_0_3 : bok m_A_addClause 0 b_A_addClause_0_3 = true := by decide +kernel
def b_A_addClause_9_19 : List Ins := [(.aload_n 0, 0, 0, 0), (.getfield 9, 2, 0, 2), (.aload_n 0, 0, 0, 0), (.getfield 27, 2, 5, 0), (.iload_n 1, 0, 0, 0), (.iastore, 0, 0, 0), (.aload_n 0, 0, 0, 0), (.getfield 15, 2, 1, 2), (.aload_n 0, 0, 0, 0), (.getfield 27, 2, 5, 0), (.aload_n 0, 0, 0, 0), (.getfield 31, 2, 6, 0), (.iastore, 0, 0, 0), (.aload_n 0, 0, 0, 0), (.dup, 0, 0, 0), (.getfield 27, 2, 5, 0), (.iconst (1), 0, 0, 0), (.iadd, 0, 0, 0), (.putfield 27, 2, 5, 0)]
theorem k_A_addClause_9_19 : bok m_A_addClause 9 b_A_addClause_9_19 = true := by decide +kernel
theorem d_A_addClause_6 : decode m_A_addClause.2.1 6 = .ok (.if_icmp .ge (36), 3) := by decide +kernel
theorem d_A_addClause_42 : decode m_A_addClause.2.1 42 = .ok (.return_, 1) := by decide +kernel
def f_A_addClause_129  (S : hs) (x1 : Int32) : Option (Int32 × hs) := (if (8 : Int32) ≤ (gI S 129 5) then some ((0 : Int32), S) else ck (inb (gI S 129 5) 8) (ck (inb (gI (uI S 130 ((gI S 129 5)).toNatClampNeg x1) 129 5) 8) (some ((0 : Int32), (uI (uI (uI S 130 ((gI S 129 5)).toNatClampNeg x1) 131 ((gI (uI S 130 ((gI S 129 5)).toNatClampNeg x1) 129 5)).toNatClampNeg (gI (uI S 130 ((gI S 129 5)).toNatClampNeg x1) 129 6)) 129 5 ((gI (uI (uI S 130 ((gI S 129 5)).toNatClampNeg x1) 131 ((gI (uI S 130 ((gI S 129 5)).toNatClampNeg x1) 129 5)).toNatClampNeg (gI (uI S 130 ((gI S 129 5)).toNatClampNeg x1) 129 6)) 129 5) + (1 : Int32)))))))
theorem c_A_addClause_129 (w : Wd) (d : Nat) (c : cx)   (S : hs) (x1 : Int32)  {z : Int32 × hs} (H : f_A_addClause_129 S x1 = some z) : Cl w (d + 1) m_A_addClause [.ref 129, .int x1] (mk c S) (none) (mk c z.2) := by
  refine Cl.of (Nat.le_refl _) (Nat.le_refl _) (by decide +kernel) (Nat.le_of_ble_eq_true rfl) ?_
  unfold f_A_addClause_129 at H
  generalize hN (mk c S) = n0
  generalize hZ (mk c S) = z0
  show J w (d + 1) m_A_addClause (n0, z0, none, mk c z.2) 0 [some (.ref 129), some (.int x1)] [] (mk c S)
  refine J.run b_A_addClause_0_3 k_A_addClause_0_3 rfl (And.intro (okO_st (S := S) rfl) (show J w (d + 1) m_A_addClause (n0, z0, none, mk c z.2) 6 [some (.ref 129), some (.int x1)] [.int (8 : Int32), .int (gI S 129 5)] (mk c S) from ?_))
  refine J.cge (tgt := 42) d_A_addClause_6 rfl (fun q1 => ?_) (fun q1 => ?_)
  · have H := ite_t H q1
    obtain rfl := some_e H
    exact J.vret d_A_addClause_42 rfl rfl
  · have H := ite_f H q1
    obtain ⟨g2, H⟩ := ck_e H
    obtain ⟨g3, H⟩ := ck_e H
    refine J.run b_A_addClause_9_19 k_A_addClause_9_19 rfl (And.intro (okO_st (S := S) rfl) (And.intro (okO_st (S := S) rfl) (And.intro (okB_st (S := S) (n := 8) rfl g2) (And.intro (okO_st (S := (uI S 130 ((gI S 129 5)).toNatClampNeg x1)) rfl) (And.intro (okO_st (S := (uI S 130 ((gI S 129 5)).toNatClampNeg x1)) rfl) (And.intro (okO_st (S := (uI S 130 ((gI S 129 5)).toNatClampNeg x1)) rfl) (And.intro (okB_st (S := (uI S 130 ((gI S 129 5)).toNatClampNeg x1)) (n := 8) rfl g3) (And.intro (okO_st (S := (uI (uI S 130 ((gI S 129 5)).toNatClampNeg x1) 131 ((gI (uI S 130 ((gI S 129 5)).toNatClampNeg x1) 129 5)).toNatClampNeg (gI (uI S 130 ((gI S 129 5)).toNatClampNeg x1) 129 6))) rfl) (And.intro (okO_st (S := (uI (uI S 130 ((gI S 129 5)).toNatClampNeg x1) 131 ((gI (uI S 130 ((gI S 129 5)).toNatClampNeg x1) 129 5)).toNatClampNeg (gI (uI S 130 ((gI S 129 5)).toNatClampNeg x1) 129 6))) rfl) (show J w (d + 1) m_A_addClause (n0, z0, none, mk c z.2) 42 [some (.ref 129), some (.int x1)] [] (mk c (uI (uI (uI S 130 ((gI S 129 5)).toNatClampNeg x1) 131 ((gI (uI S 130 ((gI S 129 5)).toNatClampNeg x1) 129 5)).toNatClampNeg (gI (uI S 130 ((gI S 129 5)).toNatClampNeg x1) 129 6)) 129 5 ((gI (uI (uI S 130 ((gI S 129 5)).toNatClampNeg x1) 131 ((gI (uI S 130 ((gI S 129 5)).toNatClampNeg x1) 129 5)).toNatClampNeg (gI (uI S 130 ((gI S 129 5)).toNatClampNeg x1) 129 6)) 129 5) + (1 : Int32)))) from ?_))))))))))
    obtain rfl := some_e H
    exact J.vret d_A_addClause_42 rfl rfl
def b_R_readClause_0_8 : List Ins := [(.aload_n 0, 0, 0, 0), (.getfield 45, 3, 7, 0), (.sipush (20010), 0, 0, 0), (.isub, 0, 0, 0), (.istore_n 1, 0, 0, 0), (.aload_n 0, 0, 0, 0), (.getfield 45, 3, 7, 0), (.sipush (20010), 0, 0, 0)]
theorem k_R_readClause_0_8 : bok m_R_readClause 0 b_R_readClause_0_8 = true := by decide +kernel
def b_R_readClause_41_1 : List Ins := [(.iconst (0), 0, 0, 0)]
theorem k_R_readClause_41_1 : bok m_R_readClause 41 b_R_readClause_41_1 = true := by decide +kernel
def b_R_readClause_19_3 : List Ins := [(.aload_n 0, 0, 0, 0), (.getfield 45, 3, 7, 0), (.sipush (20015), 0, 0, 0)]
theorem k_R_readClause_19_3 : bok m_R_readClause 19 b_R_readClause_19_3 = true := by decide +kernel
def b_R_readClause_29_4 : List Ins := [(.aload_n 0, 0, 0, 0), (.getfield 14, 3, 0, 2), (.getfield 55, 2, 5, 0), (.bipush (8), 0, 0, 0)]
theorem k_R_readClause_29_4 : bok m_R_readClause 29 b_R_readClause_29_4 = true := by decide +kernel
def b_R_readClause_43_1 : List Ins := [(.aload_n 0, 0, 0, 0)]
theorem k_R_readClause_43_1 : bok m_R_readClause 43 b_R_readClause_43_1 = true := by decide +kernel
def b_R_readClause_47_3 : List Ins := [(.aload_n 0, 0, 0, 0), (.getfield 45, 3, 7, 0), (.sipush (20002), 0, 0, 0)]
theorem k_R_readClause_47_3 : bok m_R_readClause 47 b_R_readClause_47_3 = true := by decide +kernel
def b_R_readClause_71_3 : List Ins := [(.aload_n 0, 0, 0, 0), (.getfield 45, 3, 7, 0), (.sipush (20159), 0, 0, 0)]
theorem k_R_readClause_71_3 : bok m_R_readClause 71 b_R_readClause_71_3 = true := by decide +kernel
def b_R_readClause_83_1 : List Ins := [(.aload_n 0, 0, 0, 0)]
theorem k_R_readClause_83_1 : bok m_R_readClause 83 b_R_readClause_83_1 = true := by decide +kernel
def b_R_readClause_87_3 : List Ins := [(.aload_n 0, 0, 0, 0), (.getfield 14, 3, 0, 2), (.iload_n 1, 0, 0, 0)]
theorem k_R_readClause_87_3 : bok m_R_readClause 87 b_R_readClause_87_3 = true := by decide +kernel
def b_R_readClause_95_1 : List Ins := [(.iconst (1), 0, 0, 0)]
theorem k_R_readClause_95_1 : bok m_R_readClause 95 b_R_readClause_95_1 = true := by decide +kernel
def b_R_readClause_81_1 : List Ins := [(.iconst (0), 0, 0, 0)]
theorem k_R_readClause_81_1 : bok m_R_readClause 81 b_R_readClause_81_1 = true := by decide +kernel
def b_R_readClause_57_1 : List Ins := [(.aload_n 0, 0, 0, 0)]
theorem k_R_readClause_57_1 : bok m_R_readClause 57 b_R_readClause_57_1 = true := by decide +kernel
def b_R_readClause_61_2 : List Ins := [(.aload_n 0, 0, 0, 0), (.iconst (0), 0, 0, 0)]
theorem k_R_readClause_61_2 : bok m_R_readClause 61 b_R_readClause_61_2 = true := by decide +kernel
def b_R_readClause_69_1 : List Ins := [(.iconst (0), 0, 0, 0)]
theorem k_R_readClause_69_1 : bok m_R_readClause 69 b_R_readClause_69_1 = true := by decide +kernel
theorem d_R_readClause_16 : decode m_R_readClause.2.1 16 = .ok (.if_icmp .lt (25), 3) := by decide +kernel
theorem d_R_readClause_42 : decode m_R_readClause.2.1 42 = .ok (.ireturn, 1) := by decide +kernel
theorem d_R_readClause_26 : decode m_R_readClause.2.1 26 = .ok (.if_icmp .gt (15), 3) := by decide +kernel
theorem d_R_readClause_38 : decode m_R_readClause.2.1 38 = .ok (.if_icmp .lt (5), 3) := by decide +kernel
theorem d_R_readClause_44 : decode m_R_readClause.2.1 44 = .ok (.invokevirtual 42, 3) := by decide +kernel
theorem d_R_readClause_54 : decode m_R_readClause.2.1 54 = .ok (.if_icmp .ne (17), 3) := by decide +kernel
theorem d_R_readClause_78 : decode m_R_readClause.2.1 78 = .ok (.if_icmp .eq (5), 3) := by decide +kernel
theorem d_R_readClause_84 : decode m_R_readClause.2.1 84 = .ok (.invokevirtual 42, 3) := by decide +kernel
theorem d_R_readClause_92 : decode m_R_readClause.2.1 92 = .ok (.invokevirtual 131, 3) := by decide +kernel
theorem d_R_readClause_96 : decode m_R_readClause.2.1 96 = .ok (.ireturn, 1) := by decide +kernel
theorem d_R_readClause_82 : decode m_R_readClause.2.1 82 = .ok (.ireturn, 1) := by decide +kernel
theorem d_R_readClause_58 : decode m_R_readClause.2.1 58 = .ok (.invokevirtual 42, 3) := by decide +kernel
theorem d_R_readClause_63 : decode m_R_readClause.2.1 63 = .ok (.invokevirtual 128, 3) := by decide +kernel
theorem d_R_readClause_66 : decode m_R_readClause.2.1 66 = .ok (.ifCond .ne (5), 3) := by decide +kernel
theorem d_R_readClause_70 : decode m_R_readClause.2.1 70 = .ok (.ireturn, 1) := by decide +kernel
def f_R_readClause  (S : hs)  : Option (Int32 × hs) := (if (gI S 128 7) < (20010 : Int32) then some ((0 : Int32), S) else (if (20015 : Int32) < (gI S 128 7) then some ((0 : Int32), S) else (if (gI S 129 5) < (8 : Int32) then bd (f_R_advance  S) fun r4 S5 => (if (gI S5 128 7) = (20002 : Int32) then bd (f_R_advance  S5) fun r15 S16 => bd (f_R_readCond (fx_rc 5) S16 (0 : Int32)) fun r18 S19 => (if r18 = 0 then some ((0 : Int32), S19) else (if (gI S19 128 7) = (20159 : Int32) then bd (f_R_advance  S19) fun r23 S24 => bd (f_A_addClause_129  S24 ((gI S 128 7) - (20010 : Int32))) fun r26 S27 => some ((1 : Int32), S27) else some ((0 : Int32), S19))) else (if (gI S5 128 7) = (20159 : Int32) then bd (f_R_advance  S5) fun r9 S10 => bd (f_A_addClause_129  S10 ((gI S 128 7) - (20010 : Int32))) fun r12 S13 => some ((1 : Int32), S13) else some ((0 : Int32), S5))) else some ((0 : Int32), S))))
theorem c_R_readClause (w : Wd) (d : Nat) (c : cx)   (S : hs)   {z : Int32 × hs} (H : f_R_readClause S = some z) : Cl w (d + 66) m_R_readClause [.ref 128] (mk c S) (some (.int z.1)) (mk c z.2) := by
  refine Cl.of (Nat.le_refl _) (Nat.le_refl _) (by decide +kernel) (Nat.le_of_ble_eq_true rfl) ?_
  unfold f_R_readClause at H
  generalize hN (mk c S) = n0
  generalize hZ (mk c S) = z0
  show J w (d + 66) m_R_readClause (n0, z0, some (.int z.1), mk c z.2) 0 [some (.ref 128), none] [] (mk c S)
  refine J.run b_R_readClause_0_8 k_R_readClause_0_8 rfl (And.intro (okO_st (S := S) rfl) (And.intro (okO_st (S := S) rfl) (show J w (d + 66) m_R_readClause (n0, z0, some (.int z.1), mk c z.2) 16 [some (.ref 128), some (.int ((gI S 128 7) - (20010 : Int32)))] [.int (20010 : Int32), .int (gI S 128 7)] (mk c S) from ?_)))
  refine J.clt (tgt := 41) d_R_readClause_16 rfl (fun q1 => ?_) (fun q1 => ?_)
  · have H := ite_t H q1
    refine J.run b_R_readClause_41_1 k_R_readClause_41_1 rfl (show J w (d + 66) m_R_readClause (n0, z0, some (.int z.1), mk c z.2) 42 [some (.ref 128), some (.int ((gI S 128 7) - (20010 : Int32)))] [.int (0 : Int32)] (mk c S) from ?_)
    obtain rfl := some_e H
    exact J.nret d_R_readClause_42 rfl rfl rfl
  · have H := ite_f H q1
    refine J.run b_R_readClause_19_3 k_R_readClause_19_3 rfl (And.intro (okO_st (S := S) rfl) (show J w (d + 66) m_R_readClause (n0, z0, some (.int z.1), mk c z.2) 26 [some (.ref 128), some (.int ((gI S 128 7) - (20010 : Int32)))] [.int (20015 : Int32), .int (gI S 128 7)] (mk c S) from ?_))
    refine J.cgt (tgt := 41) d_R_readClause_26 rfl (fun q2 => ?_) (fun q2 => ?_)
    · have H := ite_t H q2
      refine J.run b_R_readClause_41_1 k_R_readClause_41_1 rfl (show J w (d + 66) m_R_readClause (n0, z0, some (.int z.1), mk c z.2) 42 [some (.ref 128), some (.int ((gI S 128 7) - (20010 : Int32)))] [.int (0 : Int32)] (mk c S) from ?_)
      obtain rfl := some_e H
      exact J.nret d_R_readClause_42 rfl rfl rfl
    · have H := ite_f H q2
      refine J.run b_R_readClause_29_4 k_R_readClause_29_4 rfl (And.intro (okO_st (S := S) rfl) (And.intro (okO_st (S := S) rfl) (show J w (d + 66) m_R_readClause (n0, z0, some (.int z.1), mk c z.2) 38 [some (.ref 128), some (.int ((gI S 128 7) - (20010 : Int32)))] [.int (8 : Int32), .int (gI S 129 5)] (mk c S) from ?_)))
      refine J.clt (tgt := 43) d_R_readClause_38 rfl (fun q3 => ?_) (fun q3 => ?_)
      · have H := ite_t H q3
        refine J.run b_R_readClause_43_1 k_R_readClause_43_1 rfl (show J w (d + 66) m_R_readClause (n0, z0, some (.int z.1), mk c z.2) 44 [some (.ref 128), some (.int ((gI S 128 7) - (20010 : Int32)))] [.ref 128] (mk c S) from ?_)
        obtain ⟨r4, S5, h6, H⟩ := bd_e H
        refine J.callV (y := m_R_advance) (av := []) (rest := []) (q := 128) l_R_42 d_R_readClause_44 (isC_st rfl rfl) (c_R_advance w (d + 64) c  S h6) rfl (Nat.le_of_ble_eq_true rfl) ⟨Nat.le_refl _, Nat.le_refl _⟩ (show J w (d + 66) m_R_readClause (n0, z0, some (.int z.1), mk c z.2) 47 [some (.ref 128), some (.int ((gI S 128 7) - (20010 : Int32)))] [] (mk c S5) from ?_)
        refine J.run b_R_readClause_47_3 k_R_readClause_47_3 rfl (And.intro (okO_st (S := S5) rfl) (show J w (d + 66) m_R_readClause (n0, z0, some (.int z.1), mk c z.2) 54 [some (.ref 128), some (.int ((gI S 128 7) - (20010 : Int32)))] [.int (20002 : Int32), .int (gI S5 128 7)] (mk c S5) from ?_))
        refine J.cne (tgt := 71) d_R_readClause_54 rfl (fun q7 => ?_) (fun q7 => ?_)
        · have H := ite_f H q7
          refine J.run b_R_readClause_71_3 k_R_readClause_71_3 rfl (And.intro (okO_st (S := S5) rfl) (show J w (d + 66) m_R_readClause (n0, z0, some (.int z.1), mk c z.2) 78 [some (.ref 128), some (.int ((gI S 128 7) - (20010 : Int32)))] [.int (20159 : Int32), .int (gI S5 128 7)] (mk c S5) from ?_))
          refine J.ceq (tgt := 83) d_R_readClause_78 rfl (fun q8 => ?_) (fun q8 => ?_)
          · have H := ite_t H q8
            refine J.run b_R_readClause_83_1 k_R_readClause_83_1 rfl (show J w (d + 66) m_R_readClause (n0, z0, some (.int z.1), mk c z.2) 84 [some (.ref 128), some (.int ((gI S 128 7) - (20010 : Int32)))] [.ref 128] (mk c S5) from ?_)
            obtain ⟨r9, S10, h11, H⟩ := bd_e H
            refine J.callV (y := m_R_advance) (av := []) (rest := []) (q := 128) l_R_42 d_R_readClause_84 (isC_st rfl rfl) (c_R_advance w (d + 64) c  S5 h11) rfl (Nat.le_of_ble_eq_true rfl) ⟨Nat.le_refl _, Nat.le_refl _⟩ (show J w (d + 66) m_R_readClause (n0, z0, some (.int z.1), mk c z.2) 87 [some (.ref 128), some (.int ((gI S 128 7) - (20010 : Int32)))] [] (mk c S10) from ?_)
            refine J.run b_R_readClause_87_3 k_R_readClause_87_3 rfl (And.intro (okO_st (S := S10) rfl) (show J w (d + 66) m_R_readClause (n0, z0, some (.int z.1), mk c z.2) 92 [some (.ref 128), some (.int ((gI S 128 7) - (20010 : Int32)))] [.int ((gI S 128 7) - (20010 : Int32)), .ref 129] (mk c S10) from ?_))
            obtain ⟨r12, S13, h14, H⟩ := bd_e H
            refine J.callV (y := m_A_addClause) (av := [.int ((gI S 128 7) - (20010 : Int32))]) (rest := []) (q := 129) l_R_131 d_R_readClause_92 (isC_st rfl rfl) (c_A_addClause_129 w (d + 64) c  S10 ((gI S 128 7) - (20010 : Int32)) h14) rfl (Nat.le_of_ble_eq_true rfl) ⟨Nat.le_refl _, Nat.le_refl _⟩ (show J w (d + 66) m_R_readClause (n0, z0, some (.int z.1), mk c z.2) 95 [some (.ref 128), some (.int ((gI S 128 7) - (20010 : Int32)))] [] (mk c S13) from ?_)
            refine J.run b_R_readClause_95_1 k_R_readClause_95_1 rfl (show J w (d + 66) m_R_readClause (n0, z0, some (.int z.1), mk c z.2) 96 [some (.ref 128), some (.int ((gI S 128 7) - (20010 : Int32)))] [.int (1 : Int32)] (mk c S13) from ?_)
            obtain rfl := some_e H
            exact J.nret d_R_readClause_96 rfl rfl rfl
          · have H := ite_f H q8
            refine J.run b_R_readClause_81_1 k_R_readClause_81_1 rfl (show J w (d + 66) m_R_readClause (n0, z0, some (.int z.1), mk c z.2) 82 [some (.ref 128), some (.int ((gI S 128 7) - (20010 : Int32)))] [.int (0 : Int32)] (mk c S5) from ?_)
            obtain rfl := some_e H
            exact J.nret d_R_readClause_82 rfl rfl rfl
        · have H := ite_t H q7
          refine J.run b_R_readClause_57_1 k_R_readClause_57_1 rfl (show J w (d + 66) m_R_readClause (n0, z0, some (.int z.1), mk c z.2) 58 [some (.ref 128), some (.int ((gI S 128 7) - (20010 : Int32)))] [.ref 128] (mk c S5) from ?_)
          obtain ⟨r15, S16, h17, H⟩ := bd_e H
          refine J.callV (y := m_R_advance) (av := []) (rest := []) (q := 128) l_R_42 d_R_readClause_58 (isC_st rfl rfl) (c_R_advance w (d + 64) c  S5 h17) rfl (Nat.le_of_ble_eq_true rfl) ⟨Nat.le_refl _, Nat.le_refl _⟩ (show J w (d + 66) m_R_readClause (n0, z0, some (.int z.1), mk c z.2) 61 [some (.ref 128), some (.int ((gI S 128 7) - (20010 : Int32)))] [] (mk c S16) from ?_)
          refine J.run b_R_readClause_61_2 k_R_readClause_61_2 rfl (show J w (d + 66) m_R_readClause (n0, z0, some (.int z.1), mk c z.2) 63 [some (.ref 128), some (.int ((gI S 128 7) - (20010 : Int32)))] [.int (0 : Int32), .ref 128] (mk c S16) from ?_)
          obtain ⟨r18, S19, h20, H⟩ := bd_e H
          refine J.callV (y := m_R_readCond) (av := [.int (0 : Int32)]) (rest := []) (q := 128) l_R_128 d_R_readClause_63 (isC_st rfl rfl) (c_R_readCond w (d + 60) c (rc_close w (d + 60) (by omega) c) S16 (0 : Int32) h20) rfl (Nat.le_of_ble_eq_true rfl) ⟨Nat.le_refl _, Nat.le_refl _⟩ (show J w (d + 66) m_R_readClause (n0, z0, some (.int z.1), mk c z.2) 66 [some (.ref 128), some (.int ((gI S 128 7) - (20010 : Int32)))] [.int r18] (mk c S19) from ?_)
          refine J.zne (tgt := 71) d_R_readClause_66 rfl (fun q21 => ?_) (fun q21 => ?_)
          · have H := ite_f H q21
            refine J.run b_R_readClause_71_3 k_R_readClause_71_3 rfl (And.intro (okO_st (S := S19) rfl) (show J w (d + 66) m_R_readClause (n0, z0, some (.int z.1), mk c z.2) 78 [some (.ref 128), some (.int ((gI S 128 7) - (20010 : Int32)))] [.int (20159 : Int32), .int (gI S19 128 7)] (mk c S19) from ?_))
            refine J.ceq (tgt := 83) d_R_readClause_78 rfl (fun q22 => ?_) (fun q22 => ?_)
            · have H := ite_t H q22
              refine J.run b_R_readClause_83_1 k_R_readClause_83_1 rfl (show J w (d + 66) m_R_readClause (n0, z0, some (.int z.1), mk c z.2) 84 [some (.ref 128), some (.int ((gI S 128 7) - (20010 : Int32)))] [.ref 128] (mk c S19) from ?_)
              obtain ⟨r23, S24, h25, H⟩ := bd_e H
              refine J.callV (y := m_R_advance) (av := []) (rest := []) (q := 128) l_R_42 d_R_readClause_84 (isC_st rfl rfl) (c_R_advance w (d + 64) c  S19 h25) rfl (Nat.le_of_ble_eq_true rfl) ⟨Nat.le_refl _, Nat.le_refl _⟩ (show J w (d + 66) m_R_readClause (n0, z0, some (.int z.1), mk c z.2) 87 [some (.ref 128), some (.int ((gI S 128 7) - (20010 : Int32)))] [] (mk c S24) from ?_)
              refine J.run b_R_readClause_87_3 k_R_readClause_87_3 rfl (And.intro (okO_st (S := S24) rfl) (show J w (d + 66) m_R_readClause (n0, z0, some (.int z.1), mk c z.2) 92 [some (.ref 128), some (.int ((gI S 128 7) - (20010 : Int32)))] [.int ((gI S 128 7) - (20010 : Int32)), .ref 129] (mk c S24) from ?_))
              obtain ⟨r26, S27, h28, H⟩ := bd_e H
              refine J.callV (y := m_A_addClause) (av := [.int ((gI S 128 7) - (20010 : Int32))]) (rest := []) (q := 129) l_R_131 d_R_readClause_92 (isC_st rfl rfl) (c_A_addClause_129 w (d + 64) c  S24 ((gI S 128 7) - (20010 : Int32)) h28) rfl (Nat.le_of_ble_eq_true rfl) ⟨Nat.le_refl _, Nat.le_refl _⟩ (show J w (d + 66) m_R_readClause (n0, z0, some (.int z.1), mk c z.2) 95 [some (.ref 128), some (.int ((gI S 128 7) - (20010 : Int32)))] [] (mk c S27) from ?_)
              refine J.run b_R_readClause_95_1 k_R_readClause_95_1 rfl (show J w (d + 66) m_R_readClause (n0, z0, some (.int z.1), mk c z.2) 96 [some (.ref 128), some (.int ((gI S 128 7) - (20010 : Int32)))] [.int (1 : Int32)] (mk c S27) from ?_)
              obtain rfl := some_e H
              exact J.nret d_R_readClause_96 rfl rfl rfl
            · have H := ite_f H q22
              refine J.run b_R_readClause_81_1 k_R_readClause_81_1 rfl (show J w (d + 66) m_R_readClause (n0, z0, some (.int z.1), mk c z.2) 82 [some (.ref 128), some (.int ((gI S 128 7) - (20010 : Int32)))] [.int (0 : Int32)] (mk c S19) from ?_)
              obtain rfl := some_e H
              exact J.nret d_R_readClause_82 rfl rfl rfl
          · have H := ite_t H q21
            refine J.run b_R_readClause_69_1 k_R_readClause_69_1 rfl (show J w (d + 66) m_R_readClause (n0, z0, some (.int z.1), mk c z.2) 70 [some (.ref 128), some (.int ((gI S 128 7) - (20010 : Int32)))] [.int (0 : Int32)] (mk c S19) from ?_)
            obtain rfl := some_e H
            exact J.nret d_R_readClause_70 rfl rfl rfl
      · have H := ite_f H q3
        refine J.run b_R_readClause_41_1 k_R_readClause_41_1 rfl (show J w (d + 66) m_R_readClause (n0, z0, some (.int z.1), mk c z.2) 42 [some (.ref 128), some (.int ((gI S 128 7) - (20010 : Int32)))] [.int (0 : Int32)] (mk c S) from ?_)
        obtain rfl := some_e H
        exact J.nret d_R_readClause_42 rfl rfl rfl
def b_A_clear_0_6 : List Ins := [(.aload_n 0, 0, 0, 0), (.iconst (0), 0, 0, 0), (.putfield 27, 2, 5, 0), (.aload_n 0, 0, 0, 0), (.iconst (0), 0, 0, 0), (.putfield 31, 2, 6, 0)]
theorem k_A_clear_0_6 : bok m_A_clear 0 b_A_clear_0_6 = true := by decide +kernel
theorem d_A_clear_10 : decode m_A_clear.2.1 10 = .ok (.return_, 1) := by decide +kernel
def f_A_clear_129  (S : hs)  : Option (Int32 × hs) := some ((0 : Int32), (uI (uI S 129 5 (0 : Int32)) 129 6 (0 : Int32)))
theorem c_A_clear_129 (w : Wd) (d : Nat) (c : cx)   (S : hs)   {z : Int32 × hs} (H : f_A_clear_129 S = some z) : Cl w (d + 1) m_A_clear [.ref 129] (mk c S) (none) (mk c z.2) := by
  refine Cl.of (Nat.le_refl _) (Nat.le_refl _) (by decide +kernel) (Nat.le_of_ble_eq_true rfl) ?_
  unfold f_A_clear_129 at H
  generalize hN (mk c S) = n0
  generalize hZ (mk c S) = z0
  show J w (d + 1) m_A_clear (n0, z0, none, mk c z.2) 0 [some (.ref 129)] [] (mk c S)
  refine J.run b_A_clear_0_6 k_A_clear_0_6 rfl (And.intro (okO_st (S := S) rfl) (And.intro (okO_st (S := (uI S 129 5 (0 : Int32))) rfl) (show J w (d + 1) m_A_clear (n0, z0, none, mk c z.2) 10 [some (.ref 129)] [] (mk c (uI (uI S 129 5 (0 : Int32)) 129 6 (0 : Int32))) from ?_)))
  obtain rfl := some_e H
  exact J.vret d_A_clear_10 rfl rfl
def b_R_readText_0_1 : List Ins := [(.aload_n 0, 0, 0, 0)]
theorem k_R_readText_0_1 : bok m_R_readText 0 b_R_readText_0_1 = true := by decide +kernel
def b_R_readText_4_2 : List Ins := [(.aload_n 0, 0, 0, 0), (.getfield 14, 3, 0, 2)]
theorem k_R_readText_4_2 : bok m_R_readText 4 b_R_readText_4_2 = true := by decide +kernel
def b_R_readText_11_4 : List Ins := [(.aload_n 0, 0, 0, 0), (.iconst (-1), 0, 0, 0), (.putfield 39, 3, 6, 0), (.aload_n 0, 0, 0, 0)]
theorem k_R_readText_11_4 : bok m_R_readText 11 b_R_readText_11_4 = true := by decide +kernel
def b_R_readText_20_4 : List Ins := [(.iconst (1), 0, 0, 0), (.istore_n 1, 0, 0, 0), (.iconst (0), 0, 0, 0), (.istore_n 2, 0, 0, 0)]
theorem k_R_readText_20_4 : bok m_R_readText 20 b_R_readText_20_4 = true := by decide +kernel
def b_R_readText_24_2 : List Ins := [(.iload_n 2, 0, 0, 0), (.bipush (8), 0, 0, 0)]
theorem k_R_readText_24_2 : bok m_R_readText 24 b_R_readText_24_2 = true := by decide +kernel
def b_R_readText_30_1 : List Ins := [(.iload_n 1, 0, 0, 0)]
theorem k_R_readText_30_1 : bok m_R_readText 30 b_R_readText_30_1 = true := by decide +kernel
def b_R_readText_34_3 : List Ins := [(.aload_n 0, 0, 0, 0), (.getfield 45, 3, 7, 0), (.sipush (20000), 0, 0, 0)]
theorem k_R_readText_34_3 : bok m_R_readText 34 b_R_readText_34_3 = true := by decide +kernel
def b_R_readText_44_1 : List Ins := [(.aload_n 0, 0, 0, 0)]
theorem k_R_readText_44_1 : bok m_R_readText 44 b_R_readText_44_1 = true := by decide +kernel
def b_R_readText_48_2 : List Ins := [(.istore_n 1, 0, 0, 0), (.iinc 2 (1), 0, 0, 0)]
theorem k_R_readText_48_2 : bok m_R_readText 48 b_R_readText_48_2 = true := by decide +kernel
def b_R_readText_55_4 : List Ins := [(.aload_n 0, 0, 0, 0), (.getfield 39, 3, 6, 0), (.aload_n 0, 0, 0, 0), (.getfield 52, 3, 5, 0)]
theorem k_R_readText_55_4 : bok m_R_readText 55 b_R_readText_55_4 = true := by decide +kernel
def b_R_readText_88_7 : List Ins := [(.aload_n 0, 0, 0, 0), (.getfield 29, 3, 2, 0), (.istore_n 2, 0, 0, 0), (.aload_n 0, 0, 0, 0), (.iconst (0), 0, 0, 0), (.putfield 29, 3, 2, 0), (.iload_n 1, 0, 0, 0)]
theorem k_R_readText_88_7 : bok m_R_readText 88 b_R_readText_88_7 = true := by decide +kernel
def b_R_readText_112_3 : List Ins := [(.bipush (-100), 0, 0, 0), (.iload_n 2, 0, 0, 0), (.isub, 0, 0, 0)]
theorem k_R_readText_112_3 : bok m_R_readText 112 b_R_readText_112_3 = true := by decide +kernel
def b_R_readText_102_3 : List Ins := [(.aload_n 0, 0, 0, 0), (.getfield 14, 3, 0, 2), (.getfield 55, 2, 5, 0)]
theorem k_R_readText_102_3 : bok m_R_readText 102 b_R_readText_102_3 = true := by decide +kernel
def b_R_readText_66_3 : List Ins := [(.aload_n 0, 0, 0, 0), (.getfield 39, 3, 6, 0), (.sipush (200), 0, 0, 0)]
theorem k_R_readText_66_3 : bok m_R_readText 66 b_R_readText_66_3 = true := by decide +kernel
def b_R_readText_76_5 : List Ins := [(.aload_n 0, 0, 0, 0), (.getfield 26, 3, 4, 2), (.aload_n 0, 0, 0, 0), (.getfield 39, 3, 6, 0), (.iaload, 0, 0, 0)]
theorem k_R_readText_76_5 : bok m_R_readText 76 b_R_readText_76_5 = true := by decide +kernel
def b_R_readText_92_5 : List Ins := [(.istore_n 2, 0, 0, 0), (.aload_n 0, 0, 0, 0), (.iconst (0), 0, 0, 0), (.putfield 29, 3, 2, 0), (.iload_n 1, 0, 0, 0)]
theorem k_R_readText_92_5 : bok m_R_readText 92 b_R_readText_92_5 = true := by decide +kernel
theorem d_R_readText_1 : decode m_R_readText.2.1 1 = .ok (.invokevirtual 33, 3) := by decide +kernel
theorem d_R_readText_8 : decode m_R_readText.2.1 8 = .ok (.invokevirtual 36, 3) := by decide +kernel
theorem d_R_readText_17 : decode m_R_readText.2.1 17 = .ok (.invokevirtual 42, 3) := by decide +kernel
theorem d_R_readText_27 : decode m_R_readText.2.1 27 = .ok (.if_icmp .gt (28), 3) := by decide +kernel
theorem d_R_readText_31 : decode m_R_readText.2.1 31 = .ok (.ifCond .eq (24), 3) := by decide +kernel
theorem d_R_readText_41 : decode m_R_readText.2.1 41 = .ok (.if_icmp .eq (14), 3) := by decide +kernel
theorem d_R_readText_45 : decode m_R_readText.2.1 45 = .ok (.invokevirtual 48, 3) := by decide +kernel
theorem d_R_readText_52 : decode m_R_readText.2.1 52 = .ok (.goto (-28), 3) := by decide +kernel
theorem d_R_readText_63 : decode m_R_readText.2.1 63 = .ok (.if_icmp .ge (25), 3) := by decide +kernel
theorem d_R_readText_99 : decode m_R_readText.2.1 99 = .ok (.ifCond .eq (13), 3) := by decide +kernel
theorem d_R_readText_116 : decode m_R_readText.2.1 116 = .ok (.ireturn, 1) := by decide +kernel
theorem d_R_readText_109 : decode m_R_readText.2.1 109 = .ok (.goto (7), 3) := by decide +kernel
theorem d_R_readText_73 : decode m_R_readText.2.1 73 = .ok (.if_icmp .ge (15), 3) := by decide +kernel
theorem d_R_readText_85 : decode m_R_readText.2.1 85 = .ok (.goto (7), 3) := by decide +kernel
def lp_R_readText_24   (K0 : hs → Int32 → Int32 → Option (Int32 × hs)) : Nat → hs → Int32 → Int32 → Option (Int32 × hs)
  | 0, _, _, _ => none
  | n + 1, S, x1, x2 => (if (8 : Int32) < x2 then K0 S x1 x2 else (if x1 = 0 then K0 S x1 x2 else (if (gI S 128 7) = (20000 : Int32) then K0 S x1 x2 else bd (f_R_readClause  S) fun r13 S14 => lp_R_readText_24 K0 n S14 r13 (x2 + (1 : Int32)))))
def f_R_readText  (S : hs)  : Option (Int32 × hs) := bd (f_R_splitTape  S) fun r1 S2 => bd (f_A_clear_129  S2) fun r4 S5 => bd (f_R_advance  (uI S5 128 6 (-1 : Int32))) fun r7 S8 => lp_R_readText_24 (fun (S16 : hs) (y17 : Int32) (y18 : Int32) => (if (gI S16 128 5) ≤ (gI S16 128 6) then (if y17 = 0 then some (((-100 : Int32) - (gI S16 128 2)), (uI S16 128 2 (0 : Int32))) else some ((gI (uI S16 128 2 (0 : Int32)) 129 5), (uI S16 128 2 (0 : Int32)))) else (if (200 : Int32) ≤ (gI S16 128 6) then (if y17 = 0 then some (((-100 : Int32) - (gI S16 128 2)), (uI S16 128 2 (0 : Int32))) else some ((gI (uI S16 128 2 (0 : Int32)) 129 5), (uI S16 128 2 (0 : Int32)))) else ck (inb (gI S16 128 6) 200) ((if y17 = 0 then some (((-100 : Int32) - (gI S16 137 ((gI S16 128 6)).toNatClampNeg)), (uI S16 128 2 (0 : Int32))) else some ((gI (uI S16 128 2 (0 : Int32)) 129 5), (uI S16 128 2 (0 : Int32)))))))) 1000 S8 (1 : Int32) (0 : Int32)
theorem lo_R_readText_24 (w : Wd) (d : Nat) (c : cx) {n0 z0 : Nat} {z : Int32 × hs}  {K0 : hs → Int32 → Int32 → Option (Int32 × hs)}    (hK0 : ∀ (S : hs) (x1 : Int32) (x2 : Int32), K0 S x1 x2 = some z → J w (d + 67) m_R_readText (n0, z0, some (.int z.1), mk c z.2) 55 [some (.ref 128), some (.int x1), none] [] (mk c S)) :
    ∀ (n : Nat) (S : hs) (x1 : Int32) (x2 : Int32), lp_R_readText_24 K0 n S x1 x2 = some z → J w (d + 67) m_R_readText (n0, z0, some (.int z.1), mk c z.2) 24 [some (.ref 128), some (.int x1), some (.int x2)] [] (mk c S) := by
  intro n
  induction n with
  | zero => intro S x1 x2 H; cases H
  | succ n ih =>
    intro S x1 x2 H
    rw [lp_R_readText_24] at H
    refine J.run b_R_readText_24_2 k_R_readText_24_2 rfl (show J w (d + 67) m_R_readText (n0, z0, some (.int z.1), mk c z.2) 27 [some (.ref 128), some (.int x1), some (.int x2)] [.int (8 : Int32), .int x2] (mk c S) from ?_)
    refine J.cgt (tgt := 55) d_R_readText_27 rfl (fun q10 => ?_) (fun q10 => ?_)
    · have H := ite_t H q10
      refine J.mask [true, true, false] ?_
      exact hK0 S x1 x2 H
    · have H := ite_f H q10
      refine J.run b_R_readText_30_1 k_R_readText_30_1 rfl (show J w (d + 67) m_R_readText (n0, z0, some (.int z.1), mk c z.2) 31 [some (.ref 128), some (.int x1), some (.int x2)] [.int x1] (mk c S) from ?_)
      refine J.zeq (tgt := 55) d_R_readText_31 rfl (fun q11 => ?_) (fun q11 => ?_)
      · have H := ite_t H q11
        refine J.mask [true, true, false] ?_
        exact hK0 S x1 x2 H
      · have H := ite_f H q11
        refine J.run b_R_readText_34_3 k_R_readText_34_3 rfl (And.intro (okO_st (S := S) rfl) (show J w (d + 67) m_R_readText (n0, z0, some (.int z.1), mk c z.2) 41 [some (.ref 128), some (.int x1), some (.int x2)] [.int (20000 : Int32), .int (gI S 128 7)] (mk c S) from ?_))
        refine J.ceq (tgt := 55) d_R_readText_41 rfl (fun q12 => ?_) (fun q12 => ?_)
        · have H := ite_t H q12
          refine J.mask [true, true, false] ?_
          exact hK0 S x1 x2 H
        · have H := ite_f H q12
          refine J.run b_R_readText_44_1 k_R_readText_44_1 rfl (show J w (d + 67) m_R_readText (n0, z0, some (.int z.1), mk c z.2) 45 [some (.ref 128), some (.int x1), some (.int x2)] [.ref 128] (mk c S) from ?_)
          obtain ⟨r13, S14, h15, H⟩ := bd_e H
          refine J.callV (y := m_R_readClause) (av := []) (rest := []) (q := 128) l_R_48 d_R_readText_45 (isC_st rfl rfl) (c_R_readClause w (d + 0) c  S h15) rfl (Nat.le_of_ble_eq_true rfl) ⟨Nat.le_refl _, Nat.le_refl _⟩ (show J w (d + 67) m_R_readText (n0, z0, some (.int z.1), mk c z.2) 48 [some (.ref 128), some (.int x1), some (.int x2)] [.int r13] (mk c S14) from ?_)
          refine J.run b_R_readText_48_2 k_R_readText_48_2 rfl (show J w (d + 67) m_R_readText (n0, z0, some (.int z.1), mk c z.2) 52 [some (.ref 128), some (.int r13), some (.int (x2 + (1 : Int32)))] [] (mk c S14) from ?_)
          refine J.goto (tgt := 24) d_R_readText_52 rfl ?_
          refine J.mask [true, true, true] ?_
          exact ih S14 r13 (x2 + (1 : Int32)) H
theorem c_R_readText (w : Wd) (d : Nat) (c : cx)   (S : hs)   {z : Int32 × hs} (H : f_R_readText S = some z) : Cl w (d + 67) m_R_readText [.ref 128] (mk c S) (some (.int z.1)) (mk c z.2) := by
  refine Cl.of (Nat.le_refl _) (Nat.le_refl _) (by decide +kernel) (Nat.le_of_ble_eq_true rfl) ?_
  unfold f_R_readText at H
  generalize hN (mk c S) = n0
  generalize hZ (mk c S) = z0
  show J w (d + 67) m_R_readText (n0, z0, some (.int z.1), mk c z.2) 0 [some (.ref 128), none, none] [] (mk c S)
  refine J.run b_R_readText_0_1 k_R_readText_0_1 rfl (show J w (d + 67) m_R_readText (n0, z0, some (.int z.1), mk c z.2) 1 [some (.ref 128), none, none] [.ref 128] (mk c S) from ?_)
  obtain ⟨r1, S2, h3, H⟩ := bd_e H
  refine J.callV (y := m_R_splitTape) (av := []) (rest := []) (q := 128) l_R_33 d_R_readText_1 (isC_st rfl rfl) (c_R_splitTape w (d + 57) c  S h3) rfl (Nat.le_of_ble_eq_true rfl) ⟨Nat.le_refl _, Nat.le_refl _⟩ (show J w (d + 67) m_R_readText (n0, z0, some (.int z.1), mk c z.2) 4 [some (.ref 128), none, none] [] (mk c S2) from ?_)
  refine J.run b_R_readText_4_2 k_R_readText_4_2 rfl (And.intro (okO_st (S := S2) rfl) (show J w (d + 67) m_R_readText (n0, z0, some (.int z.1), mk c z.2) 8 [some (.ref 128), none, none] [.ref 129] (mk c S2) from ?_))
  obtain ⟨r4, S5, h6, H⟩ := bd_e H
  refine J.callV (y := m_A_clear) (av := []) (rest := []) (q := 129) l_R_36 d_R_readText_8 (isC_st rfl rfl) (c_A_clear_129 w (d + 65) c  S2 h6) rfl (Nat.le_of_ble_eq_true rfl) ⟨Nat.le_refl _, Nat.le_refl _⟩ (show J w (d + 67) m_R_readText (n0, z0, some (.int z.1), mk c z.2) 11 [some (.ref 128), none, none] [] (mk c S5) from ?_)
  refine J.run b_R_readText_11_4 k_R_readText_11_4 rfl (And.intro (okO_st (S := S5) rfl) (show J w (d + 67) m_R_readText (n0, z0, some (.int z.1), mk c z.2) 17 [some (.ref 128), none, none] [.ref 128] (mk c (uI S5 128 6 (-1 : Int32))) from ?_))
  obtain ⟨r7, S8, h9, H⟩ := bd_e H
  refine J.callV (y := m_R_advance) (av := []) (rest := []) (q := 128) l_R_42 d_R_readText_17 (isC_st rfl rfl) (c_R_advance w (d + 65) c  (uI S5 128 6 (-1 : Int32)) h9) rfl (Nat.le_of_ble_eq_true rfl) ⟨Nat.le_refl _, Nat.le_refl _⟩ (show J w (d + 67) m_R_readText (n0, z0, some (.int z.1), mk c z.2) 20 [some (.ref 128), none, none] [] (mk c S8) from ?_)
  refine J.run b_R_readText_20_4 k_R_readText_20_4 rfl (show J w (d + 67) m_R_readText (n0, z0, some (.int z.1), mk c z.2) 24 [some (.ref 128), some (.int (1 : Int32)), some (.int (0 : Int32))] [] (mk c S8) from ?_)
  refine J.mask [true, true, true] ?_
  refine lo_R_readText_24 w d c  ?_ 1000 S8 (1 : Int32) (0 : Int32) H
  · intro S16 y17 y18 H
    try dsimp only at H
    refine J.run b_R_readText_55_4 k_R_readText_55_4 rfl (And.intro (okO_st (S := S16) rfl) (And.intro (okO_st (S := S16) rfl) (show J w (d + 67) m_R_readText (n0, z0, some (.int z.1), mk c z.2) 63 [some (.ref 128), some (.int y17), none] [.int (gI S16 128 5), .int (gI S16 128 6)] (mk c S16) from ?_)))
    refine J.cge (tgt := 88) d_R_readText_63 rfl (fun q19 => ?_) (fun q19 => ?_)
    · have H := ite_t H q19
      refine J.run b_R_readText_88_7 k_R_readText_88_7 rfl (And.intro (okO_st (S := S16) rfl) (And.intro (okO_st (S := S16) rfl) (show J w (d + 67) m_R_readText (n0, z0, some (.int z.1), mk c z.2) 99 [some (.ref 128), some (.int y17), some (.int (gI S16 128 2))] [.int y17] (mk c (uI S16 128 2 (0 : Int32))) from ?_)))
      refine J.zeq (tgt := 112) d_R_readText_99 rfl (fun q20 => ?_) (fun q20 => ?_)
      · have H := ite_t H q20
        refine J.run b_R_readText_112_3 k_R_readText_112_3 rfl (show J w (d + 67) m_R_readText (n0, z0, some (.int z.1), mk c z.2) 116 [some (.ref 128), some (.int y17), some (.int (gI S16 128 2))] [.int ((-100 : Int32) - (gI S16 128 2))] (mk c (uI S16 128 2 (0 : Int32))) from ?_)
        obtain rfl := some_e H
        exact J.iret d_R_readText_116 rfl rfl
      · have H := ite_f H q20
        refine J.run b_R_readText_102_3 k_R_readText_102_3 rfl (And.intro (okO_st (S := (uI S16 128 2 (0 : Int32))) rfl) (And.intro (okO_st (S := (uI S16 128 2 (0 : Int32))) rfl) (show J w (d + 67) m_R_readText (n0, z0, some (.int z.1), mk c z.2) 109 [some (.ref 128), some (.int y17), some (.int (gI S16 128 2))] [.int (gI (uI S16 128 2 (0 : Int32)) 129 5)] (mk c (uI S16 128 2 (0 : Int32))) from ?_)))
        refine J.goto (tgt := 116) d_R_readText_109 rfl ?_
        obtain rfl := some_e H
        exact J.iret d_R_readText_116 rfl rfl
    · have H := ite_f H q19
      refine J.run b_R_readText_66_3 k_R_readText_66_3 rfl (And.intro (okO_st (S := S16) rfl) (show J w (d + 67) m_R_readText (n0, z0, some (.int z.1), mk c z.2) 73 [some (.ref 128), some (.int y17), none] [.int (200 : Int32), .int (gI S16 128 6)] (mk c S16) from ?_))
      refine J.cge (tgt := 88) d_R_readText_73 rfl (fun q21 => ?_) (fun q21 => ?_)
      · have H := ite_t H q21
        refine J.run b_R_readText_88_7 k_R_readText_88_7 rfl (And.intro (okO_st (S := S16) rfl) (And.intro (okO_st (S := S16) rfl) (show J w (d + 67) m_R_readText (n0, z0, some (.int z.1), mk c z.2) 99 [some (.ref 128), some (.int y17), some (.int (gI S16 128 2))] [.int y17] (mk c (uI S16 128 2 (0 : Int32))) from ?_)))
        refine J.zeq (tgt := 112) d_R_readText_99 rfl (fun q22 => ?_) (fun q22 => ?_)
        · have H := ite_t H q22
          refine J.run b_R_readText_112_3 k_R_readText_112_3 rfl (show J w (d + 67) m_R_readText (n0, z0, some (.int z.1), mk c z.2) 116 [some (.ref 128), some (.int y17), some (.int (gI S16 128 2))] [.int ((-100 : Int32) - (gI S16 128 2))] (mk c (uI S16 128 2 (0 : Int32))) from ?_)
          obtain rfl := some_e H
          exact J.iret d_R_readText_116 rfl rfl
        · have H := ite_f H q22
          refine J.run b_R_readText_102_3 k_R_readText_102_3 rfl (And.intro (okO_st (S := (uI S16 128 2 (0 : Int32))) rfl) (And.intro (okO_st (S := (uI S16 128 2 (0 : Int32))) rfl) (show J w (d + 67) m_R_readText (n0, z0, some (.int z.1), mk c z.2) 109 [some (.ref 128), some (.int y17), some (.int (gI S16 128 2))] [.int (gI (uI S16 128 2 (0 : Int32)) 129 5)] (mk c (uI S16 128 2 (0 : Int32))) from ?_)))
          refine J.goto (tgt := 116) d_R_readText_109 rfl ?_
          obtain rfl := some_e H
          exact J.iret d_R_readText_116 rfl rfl
      · have H := ite_f H q21
        obtain ⟨g23, H⟩ := ck_e H
        refine J.run b_R_readText_76_5 k_R_readText_76_5 rfl (And.intro (okO_st (S := S16) rfl) (And.intro (okO_st (S := S16) rfl) (And.intro (okA_st (S := S16) (n := 200) rfl g23) (show J w (d + 67) m_R_readText (n0, z0, some (.int z.1), mk c z.2) 85 [some (.ref 128), some (.int y17), none] [.int (gI S16 137 ((gI S16 128 6)).toNatClampNeg)] (mk c S16) from ?_))))
        refine J.goto (tgt := 92) d_R_readText_85 rfl ?_
        refine J.run b_R_readText_92_5 k_R_readText_92_5 rfl (And.intro (okO_st (S := S16) rfl) (show J w (d + 67) m_R_readText (n0, z0, some (.int z.1), mk c z.2) 99 [some (.ref 128), some (.int y17), some (.int (gI S16 137 ((gI S16 128 6)).toNatClampNeg))] [.int y17] (mk c (uI S16 128 2 (0 : Int32))) from ?_))
        refine J.zeq (tgt := 112) d_R_readText_99 rfl (fun q24 => ?_) (fun q24 => ?_)
        · have H := ite_t H q24
          refine J.run b_R_readText_112_3 k_R_readText_112_3 rfl (show J w (d + 67) m_R_readText (n0, z0, some (.int z.1), mk c z.2) 116 [some (.ref 128), some (.int y17), some (.int (gI S16 137 ((gI S16 128 6)).toNatClampNeg))] [.int ((-100 : Int32) - (gI S16 137 ((gI S16 128 6)).toNatClampNeg))] (mk c (uI S16 128 2 (0 : Int32))) from ?_)
          obtain rfl := some_e H
          exact J.iret d_R_readText_116 rfl rfl
        · have H := ite_f H q24
          refine J.run b_R_readText_102_3 k_R_readText_102_3 rfl (And.intro (okO_st (S := (uI S16 128 2 (0 : Int32))) rfl) (And.intro (okO_st (S := (uI S16 128 2 (0 : Int32))) rfl) (show J w (d + 67) m_R_readText (n0, z0, some (.int z.1), mk c z.2) 109 [some (.ref 128), some (.int y17), some (.int (gI S16 137 ((gI S16 128 6)).toNatClampNeg))] [.int (gI (uI S16 128 2 (0 : Int32)) 129 5)] (mk c (uI S16 128 2 (0 : Int32))) from ?_)))
          refine J.goto (tgt := 116) d_R_readText_109 rfl ?_
          obtain rfl := some_e H
          exact J.iret d_R_readText_116 rfl rfl
