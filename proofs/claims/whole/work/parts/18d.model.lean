/-! Model -/
def b_M_prove_0_2 : List Ins := [(.aload_n 0, 0, 0, 0), (.iload_n 1, 0, 0, 0)]
theorem k_M_prove_0_2 : bok m_M_prove 0 b_M_prove_0_2 = true := by decide +kernel
def b_M_prove_17_1 : List Ins := [(.iconst (-1), 0, 0, 0)]
theorem k_M_prove_17_1 : bok m_M_prove 17 b_M_prove_17_1 = true := by decide +kernel
def b_M_prove_8_3 : List Ins := [(.aload_n 0, 0, 0, 0), (.iload_n 2, 0, 0, 0), (.iconst (1), 0, 0, 0)]
theorem k_M_prove_8_3 : bok m_M_prove 8 b_M_prove_8_3 = true := by decide +kernel
def b_M_prove_19_3 : List Ins := [(.aload_n 0, 0, 0, 0), (.iconst (0), 0, 0, 0), (.iconst (0), 0, 0, 0)]
theorem k_M_prove_19_3 : bok m_M_prove 19 b_M_prove_19_3 = true := by decide +kernel
def b_M_prove_25_3 : List Ins := [(.aload_n 0, 0, 0, 0), (.iload_n 1, 0, 0, 0), (.iload_n 2, 0, 0, 0)]
theorem k_M_prove_25_3 : bok m_M_prove 25 b_M_prove_25_3 = true := by decide +kernel
def b_M_prove_31_1 : List Ins := [(.ldc_w 273, 0, 100000, 0)]
theorem k_M_prove_31_1 : bok m_M_prove 31 b_M_prove_31_1 = true := by decide +kernel
def b_M_prove_40_8 : List Ins := [(.aload_n 0, 0, 0, 0), (.iconst (0), 0, 0, 0), (.putfield 315, 11, 23, 0), (.iconst (0), 0, 0, 0), (.istore_n 3, 0, 0, 0), (.aload_n 0, 0, 0, 0), (.iload_n 1, 0, 0, 0), (.iload_n 2, 0, 0, 0)]
theorem k_M_prove_40_8 : bok m_M_prove 40 b_M_prove_40_8 = true := by decide +kernel
def b_M_prove_53_1 : List Ins := [(.istore 4, 0, 0, 0)]
theorem k_M_prove_53_1 : bok m_M_prove 53 b_M_prove_53_1 = true := by decide +kernel
def b_M_prove_55_1 : List Ins := [(.iload 4, 0, 0, 0)]
theorem k_M_prove_55_1 : bok m_M_prove 55 b_M_prove_55_1 = true := by decide +kernel
def b_M_prove_148_2 : List Ins := [(.aload_n 0, 0, 0, 0), (.getfield 315, 11, 23, 0)]
theorem k_M_prove_148_2 : bok m_M_prove 148 b_M_prove_148_2 = true := by decide +kernel
def b_M_prove_60_3 : List Ins := [(.aload_n 0, 0, 0, 0), (.getfield 315, 11, 23, 0), (.bipush (20), 0, 0, 0)]
theorem k_M_prove_60_3 : bok m_M_prove 60 b_M_prove_60_3 = true := by decide +kernel
def b_M_prove_69_5 : List Ins := [(.iload_n 3, 0, 0, 0), (.aload_n 0, 0, 0, 0), (.iload 4, 0, 0, 0), (.iconst (2), 0, 0, 0), (.idiv, 0, 0, 0)]
theorem k_M_prove_69_5 : bok m_M_prove 69 b_M_prove_69_5 = true := by decide +kernel
def b_M_prove_78_20 : List Ins := [(.iadd, 0, 0, 0), (.istore_n 3, 0, 0, 0), (.aload_n 0, 0, 0, 0), (.getfield 81, 11, 22, 2), (.iconst (3), 0, 0, 0), (.aload_n 0, 0, 0, 0), (.getfield 315, 11, 23, 0), (.imul, 0, 0, 0), (.iload 4, 0, 0, 0), (.iastore, 0, 0, 0), (.aload_n 0, 0, 0, 0), (.getfield 81, 11, 22, 2), (.iconst (3), 0, 0, 0), (.aload_n 0, 0, 0, 0), (.getfield 315, 11, 23, 0), (.imul, 0, 0, 0), (.iconst (1), 0, 0, 0), (.iadd, 0, 0, 0), (.aload_n 0, 0, 0, 0), (.iload 4, 0, 0, 0)]
theorem k_M_prove_78_20 : bok m_M_prove 78 b_M_prove_78_20 = true := by decide +kernel
def b_M_prove_111_20 : List Ins := [(.iastore, 0, 0, 0), (.aload_n 0, 0, 0, 0), (.getfield 81, 11, 22, 2), (.iconst (3), 0, 0, 0), (.aload_n 0, 0, 0, 0), (.getfield 315, 11, 23, 0), (.imul, 0, 0, 0), (.iconst (2), 0, 0, 0), (.iadd, 0, 0, 0), (.iload_n 3, 0, 0, 0), (.iastore, 0, 0, 0), (.aload_n 0, 0, 0, 0), (.dup, 0, 0, 0), (.getfield 315, 11, 23, 0), (.iconst (1), 0, 0, 0), (.iadd, 0, 0, 0), (.putfield 315, 11, 23, 0), (.aload_n 0, 0, 0, 0), (.iload 4, 0, 0, 0), (.iload_n 2, 0, 0, 0)]
theorem k_M_prove_111_20 : bok m_M_prove 111 b_M_prove_111_20 = true := by decide +kernel
def b_M_prove_143_1 : List Ins := [(.istore 4, 0, 0, 0)]
theorem k_M_prove_143_1 : bok m_M_prove 143 b_M_prove_143_1 = true := by decide +kernel
def b_M_prove_37_1 : List Ins := [(.bipush (-3), 0, 0, 0)]
theorem k_M_prove_37_1 : bok m_M_prove 37 b_M_prove_37_1 = true := by decide +kernel
theorem d_M_prove_2 : decode m_M_prove.2.1 2 = .ok (.invokevirtual 123, 3) := by decide +kernel
theorem d_M_prove_5 : decode m_M_prove.2.1 5 = .ok (.ifCond .eq (12), 3) := by decide +kernel
theorem d_M_prove_18 : decode m_M_prove.2.1 18 = .ok (.ireturn, 1) := by decide +kernel
theorem d_M_prove_11 : decode m_M_prove.2.1 11 = .ok (.invokevirtual 120, 3) := by decide +kernel
theorem d_M_prove_14 : decode m_M_prove.2.1 14 = .ok (.ifCond .ne (5), 3) := by decide +kernel
theorem d_M_prove_22 : decode m_M_prove.2.1 22 = .ok (.invokevirtual 280, 3) := by decide +kernel
theorem d_M_prove_28 : decode m_M_prove.2.1 28 = .ok (.invokevirtual 284, 3) := by decide +kernel
theorem d_M_prove_34 : decode m_M_prove.2.1 34 = .ok (.if_icmp .lt (6), 3) := by decide +kernel
theorem d_M_prove_50 : decode m_M_prove.2.1 50 = .ok (.invokevirtual 287, 3) := by decide +kernel
theorem d_M_prove_57 : decode m_M_prove.2.1 57 = .ok (.ifCond .lt (91), 3) := by decide +kernel
theorem d_M_prove_152 : decode m_M_prove.2.1 152 = .ok (.ireturn, 1) := by decide +kernel
theorem d_M_prove_66 : decode m_M_prove.2.1 66 = .ok (.if_icmp .ge (82), 3) := by decide +kernel
theorem d_M_prove_75 : decode m_M_prove.2.1 75 = .ok (.invokevirtual 142, 3) := by decide +kernel
theorem d_M_prove_108 : decode m_M_prove.2.1 108 = .ok (.invokevirtual 130, 3) := by decide +kernel
theorem d_M_prove_140 : decode m_M_prove.2.1 140 = .ok (.invokevirtual 287, 3) := by decide +kernel
theorem d_M_prove_145 : decode m_M_prove.2.1 145 = .ok (.goto (-90), 3) := by decide +kernel
theorem d_M_prove_39 : decode m_M_prove.2.1 39 = .ok (.ireturn, 1) := by decide +kernel
def lp_M_prove_55 (x2 : Int32)   : Nat → hs → Int32 → Int32 → Option (Int32 × hs)
  | 0, _, _, _ => none
  | n + 1, S, x3, x4 => (if x4 < 0 then some ((gI S 191 23), S) else (if (20 : Int32) ≤ (gI S 191 23) then some ((gI S 191 23), S) else bd (f_M_longOf  S (x4 / (2 : Int32))) fun r21 S22 => ck (inb ((3 : Int32) * (gI S22 191 23)) 60) (bd (f_M_endOf  (uI S22 205 (((3 : Int32) * (gI S22 191 23))).toNatClampNeg x4) x4) fun r25 S26 => ck (inb (((3 : Int32) * (gI (uI S22 205 (((3 : Int32) * (gI S22 191 23))).toNatClampNeg x4) 191 23)) + (1 : Int32)) 60) (ck (inb (((3 : Int32) * (gI (uI S26 205 ((((3 : Int32) * (gI (uI S22 205 (((3 : Int32) * (gI S22 191 23))).toNatClampNeg x4) 191 23)) + (1 : Int32))).toNatClampNeg r25) 191 23)) + (2 : Int32)) 60) (bd (f_M_firstOf  (uI (uI (uI S26 205 ((((3 : Int32) * (gI (uI S22 205 (((3 : Int32) * (gI S22 191 23))).toNatClampNeg x4) 191 23)) + (1 : Int32))).toNatClampNeg r25) 205 ((((3 : Int32) * (gI (uI S26 205 ((((3 : Int32) * (gI (uI S22 205 (((3 : Int32) * (gI S22 191 23))).toNatClampNeg x4) 191 23)) + (1 : Int32))).toNatClampNeg r25) 191 23)) + (2 : Int32))).toNatClampNeg (x3 + r21)) 191 23 ((gI (uI (uI S26 205 ((((3 : Int32) * (gI (uI S22 205 (((3 : Int32) * (gI S22 191 23))).toNatClampNeg x4) 191 23)) + (1 : Int32))).toNatClampNeg r25) 205 ((((3 : Int32) * (gI (uI S26 205 ((((3 : Int32) * (gI (uI S22 205 (((3 : Int32) * (gI S22 191 23))).toNatClampNeg x4) 191 23)) + (1 : Int32))).toNatClampNeg r25) 191 23)) + (2 : Int32))).toNatClampNeg (x3 + r21)) 191 23) + (1 : Int32))) x4 x2) fun r30 S31 => lp_M_prove_55 x2 n S31 (x3 + r21) r30)))))
def f_M_prove  (S : hs) (x1 : Int32) (x2 : Int32) : Option (Int32 × hs) := bd (f_M_isCourse  S x1) fun r1 S2 => (if r1 = 0 then some ((-1 : Int32), S2) else bd (f_M_is  S2 x2 (1 : Int32)) fun r5 S6 => (if r5 = 0 then some ((-1 : Int32), S6) else bd (f_M_findOnto  S6 (0 : Int32) (0 : Int32)) fun r9 S10 => bd (f_M_farOf  S10 x1 x2) fun r12 S13 => (if r12 < (100000 : Int32) then bd (f_M_firstOf  (uI S13 191 23 (0 : Int32)) x1 x2) fun r16 S17 => lp_M_prove_55 x2 1000 S17 (0 : Int32) r16 else some ((-3 : Int32), S13))))
theorem lo_M_prove_55 (w : Wd) (d : Nat) (c : cx) {n0 z0 : Nat} {z : Int32 × hs}   (x2 : Int32)    :
    ∀ (n : Nat) (S : hs) (x3 : Int32) (x4 : Int32), lp_M_prove_55 x2 n S x3 x4 = some z → J w (d + 8) m_M_prove (n0, z0, some (.int z.1), mk c z.2) 55 [some (.ref 191), none, some (.int x2), some (.int x3), some (.int x4)] [] (mk c S) := by
  intro n
  induction n with
  | zero => intro S x3 x4 H; cases H
  | succ n ih =>
    intro S x3 x4 H
    rw [lp_M_prove_55] at H
    refine J.run b_M_prove_55_1 k_M_prove_55_1 rfl (show J w (d + 8) m_M_prove (n0, z0, some (.int z.1), mk c z.2) 57 [some (.ref 191), none, some (.int x2), some (.int x3), some (.int x4)] [.int x4] (mk c S) from ?_)
    refine J.zlt (tgt := 148) d_M_prove_57 rfl (fun q19 => ?_) (fun q19 => ?_)
    · have H := ite_t H q19
      refine J.run b_M_prove_148_2 k_M_prove_148_2 rfl (And.intro (okO_st (S := S) rfl) (show J w (d + 8) m_M_prove (n0, z0, some (.int z.1), mk c z.2) 152 [some (.ref 191), none, some (.int x2), some (.int x3), some (.int x4)] [.int (gI S 191 23)] (mk c S) from ?_))
      obtain rfl := some_e H
      exact J.iret d_M_prove_152 rfl rfl
    · have H := ite_f H q19
      refine J.run b_M_prove_60_3 k_M_prove_60_3 rfl (And.intro (okO_st (S := S) rfl) (show J w (d + 8) m_M_prove (n0, z0, some (.int z.1), mk c z.2) 66 [some (.ref 191), none, some (.int x2), some (.int x3), some (.int x4)] [.int (20 : Int32), .int (gI S 191 23)] (mk c S) from ?_))
      refine J.cge (tgt := 148) d_M_prove_66 rfl (fun q20 => ?_) (fun q20 => ?_)
      · have H := ite_t H q20
        refine J.run b_M_prove_148_2 k_M_prove_148_2 rfl (And.intro (okO_st (S := S) rfl) (show J w (d + 8) m_M_prove (n0, z0, some (.int z.1), mk c z.2) 152 [some (.ref 191), none, some (.int x2), some (.int x3), some (.int x4)] [.int (gI S 191 23)] (mk c S) from ?_))
        obtain rfl := some_e H
        exact J.iret d_M_prove_152 rfl rfl
      · have H := ite_f H q20
        refine J.run b_M_prove_69_5 k_M_prove_69_5 rfl (And.intro (by decide) (show J w (d + 8) m_M_prove (n0, z0, some (.int z.1), mk c z.2) 75 [some (.ref 191), none, some (.int x2), some (.int x3), some (.int x4)] [.int (x4 / (2 : Int32)), .ref 191, .int x3] (mk c S) from ?_))
        obtain ⟨r21, S22, h23, H⟩ := bd_e H
        refine J.callV (y := m_M_longOf) (av := [.int (x4 / (2 : Int32))]) (rest := [.int x3]) (q := 191) l_M_142 d_M_prove_75 (isC_st rfl rfl) (c_M_longOf w (d + 5) c  S (x4 / (2 : Int32)) h23) rfl (Nat.le_of_ble_eq_true rfl) ⟨Nat.le_refl _, Nat.le_refl _⟩ (show J w (d + 8) m_M_prove (n0, z0, some (.int z.1), mk c z.2) 78 [some (.ref 191), none, some (.int x2), some (.int x3), some (.int x4)] [.int r21, .int x3] (mk c S22) from ?_)
        obtain ⟨g24, H⟩ := ck_e H
        refine J.run b_M_prove_78_20 k_M_prove_78_20 rfl (And.intro (okO_st (S := S22) rfl) (And.intro (okO_st (S := S22) rfl) (And.intro (okB_st (S := S22) (n := 60) rfl g24) (And.intro (okO_st (S := (uI S22 205 (((3 : Int32) * (gI S22 191 23))).toNatClampNeg x4)) rfl) (And.intro (okO_st (S := (uI S22 205 (((3 : Int32) * (gI S22 191 23))).toNatClampNeg x4)) rfl) (show J w (d + 8) m_M_prove (n0, z0, some (.int z.1), mk c z.2) 108 [some (.ref 191), none, some (.int x2), some (.int (x3 + r21)), some (.int x4)] [.int x4, .ref 191, .int (((3 : Int32) * (gI (uI S22 205 (((3 : Int32) * (gI S22 191 23))).toNatClampNeg x4) 191 23)) + (1 : Int32)), .ref 205] (mk c (uI S22 205 (((3 : Int32) * (gI S22 191 23))).toNatClampNeg x4)) from ?_))))))
        obtain ⟨r25, S26, h27, H⟩ := bd_e H
        refine J.callV (y := m_M_endOf) (av := [.int x4]) (rest := [.int (((3 : Int32) * (gI (uI S22 205 (((3 : Int32) * (gI S22 191 23))).toNatClampNeg x4) 191 23)) + (1 : Int32)), .ref 205]) (q := 191) l_M_130 d_M_prove_108 (isC_st rfl rfl) (c_M_endOf w (d + 5) c  (uI S22 205 (((3 : Int32) * (gI S22 191 23))).toNatClampNeg x4) x4 h27) rfl (Nat.le_of_ble_eq_true rfl) ⟨Nat.le_refl _, Nat.le_refl _⟩ (show J w (d + 8) m_M_prove (n0, z0, some (.int z.1), mk c z.2) 111 [some (.ref 191), none, some (.int x2), some (.int (x3 + r21)), some (.int x4)] [.int r25, .int (((3 : Int32) * (gI (uI S22 205 (((3 : Int32) * (gI S22 191 23))).toNatClampNeg x4) 191 23)) + (1 : Int32)), .ref 205] (mk c S26) from ?_)
        obtain ⟨g28, H⟩ := ck_e H
        obtain ⟨g29, H⟩ := ck_e H
        refine J.run b_M_prove_111_20 k_M_prove_111_20 rfl (And.intro (okB_st (S := S26) (n := 60) rfl g28) (And.intro (okO_st (S := (uI S26 205 ((((3 : Int32) * (gI (uI S22 205 (((3 : Int32) * (gI S22 191 23))).toNatClampNeg x4) 191 23)) + (1 : Int32))).toNatClampNeg r25)) rfl) (And.intro (okO_st (S := (uI S26 205 ((((3 : Int32) * (gI (uI S22 205 (((3 : Int32) * (gI S22 191 23))).toNatClampNeg x4) 191 23)) + (1 : Int32))).toNatClampNeg r25)) rfl) (And.intro (okB_st (S := (uI S26 205 ((((3 : Int32) * (gI (uI S22 205 (((3 : Int32) * (gI S22 191 23))).toNatClampNeg x4) 191 23)) + (1 : Int32))).toNatClampNeg r25)) (n := 60) rfl g29) (And.intro (okO_st (S := (uI (uI S26 205 ((((3 : Int32) * (gI (uI S22 205 (((3 : Int32) * (gI S22 191 23))).toNatClampNeg x4) 191 23)) + (1 : Int32))).toNatClampNeg r25) 205 ((((3 : Int32) * (gI (uI S26 205 ((((3 : Int32) * (gI (uI S22 205 (((3 : Int32) * (gI S22 191 23))).toNatClampNeg x4) 191 23)) + (1 : Int32))).toNatClampNeg r25) 191 23)) + (2 : Int32))).toNatClampNeg (x3 + r21))) rfl) (And.intro (okO_st (S := (uI (uI S26 205 ((((3 : Int32) * (gI (uI S22 205 (((3 : Int32) * (gI S22 191 23))).toNatClampNeg x4) 191 23)) + (1 : Int32))).toNatClampNeg r25) 205 ((((3 : Int32) * (gI (uI S26 205 ((((3 : Int32) * (gI (uI S22 205 (((3 : Int32) * (gI S22 191 23))).toNatClampNeg x4) 191 23)) + (1 : Int32))).toNatClampNeg r25) 191 23)) + (2 : Int32))).toNatClampNeg (x3 + r21))) rfl) (show J w (d + 8) m_M_prove (n0, z0, some (.int z.1), mk c z.2) 140 [some (.ref 191), none, some (.int x2), some (.int (x3 + r21)), some (.int x4)] [.int x2, .int x4, .ref 191] (mk c (uI (uI (uI S26 205 ((((3 : Int32) * (gI (uI S22 205 (((3 : Int32) * (gI S22 191 23))).toNatClampNeg x4) 191 23)) + (1 : Int32))).toNatClampNeg r25) 205 ((((3 : Int32) * (gI (uI S26 205 ((((3 : Int32) * (gI (uI S22 205 (((3 : Int32) * (gI S22 191 23))).toNatClampNeg x4) 191 23)) + (1 : Int32))).toNatClampNeg r25) 191 23)) + (2 : Int32))).toNatClampNeg (x3 + r21)) 191 23 ((gI (uI (uI S26 205 ((((3 : Int32) * (gI (uI S22 205 (((3 : Int32) * (gI S22 191 23))).toNatClampNeg x4) 191 23)) + (1 : Int32))).toNatClampNeg r25) 205 ((((3 : Int32) * (gI (uI S26 205 ((((3 : Int32) * (gI (uI S22 205 (((3 : Int32) * (gI S22 191 23))).toNatClampNeg x4) 191 23)) + (1 : Int32))).toNatClampNeg r25) 191 23)) + (2 : Int32))).toNatClampNeg (x3 + r21)) 191 23) + (1 : Int32)))) from ?_)))))))
        obtain ⟨r30, S31, h32, H⟩ := bd_e H
        refine J.callV (y := m_M_firstOf) (av := [.int x4, .int x2]) (rest := []) (q := 191) l_M_287 d_M_prove_140 (isC_st rfl rfl) (c_M_firstOf w (d + 2) c  (uI (uI (uI S26 205 ((((3 : Int32) * (gI (uI S22 205 (((3 : Int32) * (gI S22 191 23))).toNatClampNeg x4) 191 23)) + (1 : Int32))).toNatClampNeg r25) 205 ((((3 : Int32) * (gI (uI S26 205 ((((3 : Int32) * (gI (uI S22 205 (((3 : Int32) * (gI S22 191 23))).toNatClampNeg x4) 191 23)) + (1 : Int32))).toNatClampNeg r25) 191 23)) + (2 : Int32))).toNatClampNeg (x3 + r21)) 191 23 ((gI (uI (uI S26 205 ((((3 : Int32) * (gI (uI S22 205 (((3 : Int32) * (gI S22 191 23))).toNatClampNeg x4) 191 23)) + (1 : Int32))).toNatClampNeg r25) 205 ((((3 : Int32) * (gI (uI S26 205 ((((3 : Int32) * (gI (uI S22 205 (((3 : Int32) * (gI S22 191 23))).toNatClampNeg x4) 191 23)) + (1 : Int32))).toNatClampNeg r25) 191 23)) + (2 : Int32))).toNatClampNeg (x3 + r21)) 191 23) + (1 : Int32))) x4 x2 h32) rfl (Nat.le_of_ble_eq_true rfl) ⟨Nat.le_refl _, Nat.le_refl _⟩ (show J w (d + 8) m_M_prove (n0, z0, some (.int z.1), mk c z.2) 143 [some (.ref 191), none, some (.int x2), some (.int (x3 + r21)), some (.int x4)] [.int r30] (mk c S31) from ?_)
        refine J.run b_M_prove_143_1 k_M_prove_143_1 rfl (show J w (d + 8) m_M_prove (n0, z0, some (.int z.1), mk c z.2) 145 [some (.ref 191), none, some (.int x2), some (.int (x3 + r21)), some (.int r30)] [] (mk c S31) from ?_)
        refine J.goto (tgt := 55) d_M_prove_145 rfl ?_
        refine J.mask [true, false, true, true, true] ?_
        exact ih S31 (x3 + r21) r30 H
theorem c_M_prove (w : Wd) (d : Nat) (c : cx)   (S : hs) (x1 : Int32) (x2 : Int32)  {z : Int32 × hs} (H : f_M_prove S x1 x2 = some z) : Cl w (d + 8) m_M_prove [.ref 191, .int x1, .int x2] (mk c S) (some (.int z.1)) (mk c z.2) := by
  refine Cl.of (Nat.le_refl _) (Nat.le_refl _) (by decide +kernel) (Nat.le_of_ble_eq_true rfl) ?_
  unfold f_M_prove at H
  generalize hN (mk c S) = n0
  generalize hZ (mk c S) = z0
  show J w (d + 8) m_M_prove (n0, z0, some (.int z.1), mk c z.2) 0 [some (.ref 191), some (.int x1), some (.int x2), none, none] [] (mk c S)
  refine J.run b_M_prove_0_2 k_M_prove_0_2 rfl (show J w (d + 8) m_M_prove (n0, z0, some (.int z.1), mk c z.2) 2 [some (.ref 191), some (.int x1), some (.int x2), none, none] [.int x1, .ref 191] (mk c S) from ?_)
  obtain ⟨r1, S2, h3, H⟩ := bd_e H
  refine J.callV (y := m_M_isCourse) (av := [.int x1]) (rest := []) (q := 191) l_M_123 d_M_prove_2 (isC_st rfl rfl) (c_M_isCourse w (d + 5) c  S x1 h3) rfl (Nat.le_of_ble_eq_true rfl) ⟨Nat.le_refl _, Nat.le_refl _⟩ (show J w (d + 8) m_M_prove (n0, z0, some (.int z.1), mk c z.2) 5 [some (.ref 191), some (.int x1), some (.int x2), none, none] [.int r1] (mk c S2) from ?_)
  refine J.zeq (tgt := 17) d_M_prove_5 rfl (fun q4 => ?_) (fun q4 => ?_)
  · have H := ite_t H q4
    refine J.run b_M_prove_17_1 k_M_prove_17_1 rfl (show J w (d + 8) m_M_prove (n0, z0, some (.int z.1), mk c z.2) 18 [some (.ref 191), some (.int x1), some (.int x2), none, none] [.int (-1 : Int32)] (mk c S2) from ?_)
    obtain rfl := some_e H
    exact J.iret d_M_prove_18 rfl rfl
  · have H := ite_f H q4
    refine J.run b_M_prove_8_3 k_M_prove_8_3 rfl (show J w (d + 8) m_M_prove (n0, z0, some (.int z.1), mk c z.2) 11 [some (.ref 191), some (.int x1), some (.int x2), none, none] [.int (1 : Int32), .int x2, .ref 191] (mk c S2) from ?_)
    obtain ⟨r5, S6, h7, H⟩ := bd_e H
    refine J.callV (y := m_M_is) (av := [.int x2, .int (1 : Int32)]) (rest := []) (q := 191) l_M_120 d_M_prove_11 (isC_st rfl rfl) (c_M_is w (d + 5) c  S2 x2 (1 : Int32) h7) rfl (Nat.le_of_ble_eq_true rfl) ⟨Nat.le_refl _, Nat.le_refl _⟩ (show J w (d + 8) m_M_prove (n0, z0, some (.int z.1), mk c z.2) 14 [some (.ref 191), some (.int x1), some (.int x2), none, none] [.int r5] (mk c S6) from ?_)
    refine J.zne (tgt := 19) d_M_prove_14 rfl (fun q8 => ?_) (fun q8 => ?_)
    · have H := ite_f H q8
      refine J.run b_M_prove_19_3 k_M_prove_19_3 rfl (show J w (d + 8) m_M_prove (n0, z0, some (.int z.1), mk c z.2) 22 [some (.ref 191), some (.int x1), some (.int x2), none, none] [.int (0 : Int32), .int (0 : Int32), .ref 191] (mk c S6) from ?_)
      obtain ⟨r9, S10, h11, H⟩ := bd_e H
      refine J.callV (y := m_M_findOnto) (av := [.int (0 : Int32), .int (0 : Int32)]) (rest := []) (q := 191) l_M_280 d_M_prove_22 (isC_st rfl rfl) (c_M_findOnto w (d + 0) c  S6 (0 : Int32) (0 : Int32) h11) rfl (Nat.le_of_ble_eq_true rfl) ⟨Nat.le_refl _, Nat.le_refl _⟩ (show J w (d + 8) m_M_prove (n0, z0, some (.int z.1), mk c z.2) 25 [some (.ref 191), some (.int x1), some (.int x2), none, none] [] (mk c S10) from ?_)
      refine J.run b_M_prove_25_3 k_M_prove_25_3 rfl (show J w (d + 8) m_M_prove (n0, z0, some (.int z.1), mk c z.2) 28 [some (.ref 191), some (.int x1), some (.int x2), none, none] [.int x2, .int x1, .ref 191] (mk c S10) from ?_)
      obtain ⟨r12, S13, h14, H⟩ := bd_e H
      refine J.callV (y := m_M_farOf) (av := [.int x1, .int x2]) (rest := []) (q := 191) l_M_284 d_M_prove_28 (isC_st rfl rfl) (c_M_farOf w (d + 3) c  S10 x1 x2 h14) rfl (Nat.le_of_ble_eq_true rfl) ⟨Nat.le_refl _, Nat.le_refl _⟩ (show J w (d + 8) m_M_prove (n0, z0, some (.int z.1), mk c z.2) 31 [some (.ref 191), some (.int x1), some (.int x2), none, none] [.int r12] (mk c S13) from ?_)
      refine J.run b_M_prove_31_1 k_M_prove_31_1 rfl (show J w (d + 8) m_M_prove (n0, z0, some (.int z.1), mk c z.2) 34 [some (.ref 191), some (.int x1), some (.int x2), none, none] [.int (100000 : Int32), .int r12] (mk c S13) from ?_)
      refine J.clt (tgt := 40) d_M_prove_34 rfl (fun q15 => ?_) (fun q15 => ?_)
      · have H := ite_t H q15
        refine J.run b_M_prove_40_8 k_M_prove_40_8 rfl (And.intro (okO_st (S := S13) rfl) (show J w (d + 8) m_M_prove (n0, z0, some (.int z.1), mk c z.2) 50 [some (.ref 191), some (.int x1), some (.int x2), some (.int (0 : Int32)), none] [.int x2, .int x1, .ref 191] (mk c (uI S13 191 23 (0 : Int32))) from ?_))
        obtain ⟨r16, S17, h18, H⟩ := bd_e H
        refine J.callV (y := m_M_firstOf) (av := [.int x1, .int x2]) (rest := []) (q := 191) l_M_287 d_M_prove_50 (isC_st rfl rfl) (c_M_firstOf w (d + 2) c  (uI S13 191 23 (0 : Int32)) x1 x2 h18) rfl (Nat.le_of_ble_eq_true rfl) ⟨Nat.le_refl _, Nat.le_refl _⟩ (show J w (d + 8) m_M_prove (n0, z0, some (.int z.1), mk c z.2) 53 [some (.ref 191), some (.int x1), some (.int x2), some (.int (0 : Int32)), none] [.int r16] (mk c S17) from ?_)
        refine J.run b_M_prove_53_1 k_M_prove_53_1 rfl (show J w (d + 8) m_M_prove (n0, z0, some (.int z.1), mk c z.2) 55 [some (.ref 191), some (.int x1), some (.int x2), some (.int (0 : Int32)), some (.int r16)] [] (mk c S17) from ?_)
        refine J.mask [true, false, true, true, true] ?_
        refine lo_M_prove_55 w d c x2  1000 S17 (0 : Int32) r16 H
      · have H := ite_f H q15
        refine J.run b_M_prove_37_1 k_M_prove_37_1 rfl (show J w (d + 8) m_M_prove (n0, z0, some (.int z.1), mk c z.2) 39 [some (.ref 191), some (.int x1), some (.int x2), none, none] [.int (-3 : Int32)] (mk c S13) from ?_)
        obtain rfl := some_e H
        exact J.iret d_M_prove_39 rfl rfl
    · have H := ite_t H q8
      refine J.run b_M_prove_17_1 k_M_prove_17_1 rfl (show J w (d + 8) m_M_prove (n0, z0, some (.int z.1), mk c z.2) 18 [some (.ref 191), some (.int x1), some (.int x2), none, none] [.int (-1 : Int32)] (mk c S6) from ?_)
      obtain rfl := some_e H
      exact J.iret d_M_prove_18 rfl rfl
def b_M_isRow_0_6 : List Ins := [(.iload_n 1, 0, 0, 0), (.iconst (0), 0, 0, 0), (.aload_n 0, 0, 0, 0), (.getfield 315, 11, 23, 0), (.iconst (1), 0, 0, 0), (.isub, 0, 0, 0)]
theorem k_M_isRow_0_6 : bok m_M_isRow 0 b_M_isRow_0_6 = true := by decide +kernel
def b_M_isRow_27_1 : List Ins := [(.iconst (0), 0, 0, 0)]
theorem k_M_isRow_27_1 : bok m_M_isRow 27 b_M_isRow_27_1 = true := by decide +kernel
def b_M_isRow_14_3 : List Ins := [(.iload_n 2, 0, 0, 0), (.iconst (0), 0, 0, 0), (.iconst (2), 0, 0, 0)]
theorem k_M_isRow_14_3 : bok m_M_isRow 14 b_M_isRow_14_3 = true := by decide +kernel
def b_M_isRow_23_1 : List Ins := [(.iconst (1), 0, 0, 0)]
theorem k_M_isRow_23_1 : bok m_M_isRow 23 b_M_isRow_23_1 = true := by decide +kernel
theorem d_M_isRow_8 : decode m_M_isRow.2.1 8 = .ok (.invokestatic 105, 3) := by decide +kernel
theorem d_M_isRow_11 : decode m_M_isRow.2.1 11 = .ok (.ifCond .eq (16), 3) := by decide +kernel
theorem d_M_isRow_28 : decode m_M_isRow.2.1 28 = .ok (.ireturn, 1) := by decide +kernel
theorem d_M_isRow_17 : decode m_M_isRow.2.1 17 = .ok (.invokestatic 105, 3) := by decide +kernel
theorem d_M_isRow_20 : decode m_M_isRow.2.1 20 = .ok (.ifCond .eq (7), 3) := by decide +kernel
theorem d_M_isRow_24 : decode m_M_isRow.2.1 24 = .ok (.goto (4), 3) := by decide +kernel
def f_M_isRow  (S : hs) (x1 : Int32) (x2 : Int32) : Option (Int32 × hs) := bd (f_M_in  S x1 (0 : Int32) ((gI S 191 23) - (1 : Int32))) fun r1 S2 => (if r1 = 0 then some ((0 : Int32), S2) else bd (f_M_in  S2 x2 (0 : Int32) (2 : Int32)) fun r5 S6 => (if r5 = 0 then some ((0 : Int32), S6) else some ((1 : Int32), S6)))
theorem c_M_isRow (w : Wd) (d : Nat) (c : cx)   (S : hs) (x1 : Int32) (x2 : Int32)  {z : Int32 × hs} (H : f_M_isRow S x1 x2 = some z) : Cl w (d + 2) m_M_isRow [.ref 191, .int x1, .int x2] (mk c S) (some (.int z.1)) (mk c z.2) := by
  refine Cl.of (Nat.le_refl _) (Nat.le_refl _) (by decide +kernel) (Nat.le_of_ble_eq_true rfl) ?_
  unfold f_M_isRow at H
  generalize hN (mk c S) = n0
  generalize hZ (mk c S) = z0
  show J w (d + 2) m_M_isRow (n0, z0, some (.int z.1), mk c z.2) 0 [some (.ref 191), some (.int x1), some (.int x2)] [] (mk c S)
  refine J.run b_M_isRow_0_6 k_M_isRow_0_6 rfl (And.intro (okO_st (S := S) rfl) (show J w (d + 2) m_M_isRow (n0, z0, some (.int z.1), mk c z.2) 8 [some (.ref 191), some (.int x1), some (.int x2)] [.int ((gI S 191 23) - (1 : Int32)), .int (0 : Int32), .int x1] (mk c S) from ?_))
  obtain ⟨r1, S2, h3, H⟩ := bd_e H
  refine J.callS (y := m_M_in) (av := [.int x1, .int (0 : Int32), .int ((gI S 191 23) - (1 : Int32))]) (rest := []) l_M_105 d_M_isRow_8 (c_M_in w (d + 0) c  S x1 (0 : Int32) ((gI S 191 23) - (1 : Int32)) h3) rfl (Nat.le_of_ble_eq_true rfl) ⟨Nat.le_refl _, Nat.le_refl _⟩ (show J w (d + 2) m_M_isRow (n0, z0, some (.int z.1), mk c z.2) 11 [some (.ref 191), some (.int x1), some (.int x2)] [.int r1] (mk c S2) from ?_)
  refine J.zeq (tgt := 27) d_M_isRow_11 rfl (fun q4 => ?_) (fun q4 => ?_)
  · have H := ite_t H q4
    refine J.run b_M_isRow_27_1 k_M_isRow_27_1 rfl (show J w (d + 2) m_M_isRow (n0, z0, some (.int z.1), mk c z.2) 28 [some (.ref 191), some (.int x1), some (.int x2)] [.int (0 : Int32)] (mk c S2) from ?_)
    obtain rfl := some_e H
    exact J.nret d_M_isRow_28 rfl rfl rfl
  · have H := ite_f H q4
    refine J.run b_M_isRow_14_3 k_M_isRow_14_3 rfl (show J w (d + 2) m_M_isRow (n0, z0, some (.int z.1), mk c z.2) 17 [some (.ref 191), some (.int x1), some (.int x2)] [.int (2 : Int32), .int (0 : Int32), .int x2] (mk c S2) from ?_)
    obtain ⟨r5, S6, h7, H⟩ := bd_e H
    refine J.callS (y := m_M_in) (av := [.int x2, .int (0 : Int32), .int (2 : Int32)]) (rest := []) l_M_105 d_M_isRow_17 (c_M_in w (d + 0) c  S2 x2 (0 : Int32) (2 : Int32) h7) rfl (Nat.le_of_ble_eq_true rfl) ⟨Nat.le_refl _, Nat.le_refl _⟩ (show J w (d + 2) m_M_isRow (n0, z0, some (.int z.1), mk c z.2) 20 [some (.ref 191), some (.int x1), some (.int x2)] [.int r5] (mk c S6) from ?_)
    refine J.zeq (tgt := 27) d_M_isRow_20 rfl (fun q8 => ?_) (fun q8 => ?_)
    · have H := ite_t H q8
      refine J.run b_M_isRow_27_1 k_M_isRow_27_1 rfl (show J w (d + 2) m_M_isRow (n0, z0, some (.int z.1), mk c z.2) 28 [some (.ref 191), some (.int x1), some (.int x2)] [.int (0 : Int32)] (mk c S6) from ?_)
      obtain rfl := some_e H
      exact J.nret d_M_isRow_28 rfl rfl rfl
    · have H := ite_f H q8
      refine J.run b_M_isRow_23_1 k_M_isRow_23_1 rfl (show J w (d + 2) m_M_isRow (n0, z0, some (.int z.1), mk c z.2) 24 [some (.ref 191), some (.int x1), some (.int x2)] [.int (1 : Int32)] (mk c S6) from ?_)
      refine J.goto (tgt := 28) d_M_isRow_24 rfl ?_
      obtain rfl := some_e H
      exact J.nret d_M_isRow_28 rfl rfl rfl
def b_M_row_0_3 : List Ins := [(.aload_n 0, 0, 0, 0), (.iload_n 1, 0, 0, 0), (.iload_n 2, 0, 0, 0)]
theorem k_M_row_0_3 : bok m_M_row 0 b_M_row_0_3 = true := by decide +kernel
def b_M_row_22_1 : List Ins := [(.bipush (-9), 0, 0, 0)]
theorem k_M_row_22_1 : bok m_M_row 22 b_M_row_22_1 = true := by decide +kernel
def b_M_row_9_8 : List Ins := [(.aload_n 0, 0, 0, 0), (.getfield 81, 11, 22, 2), (.iconst (3), 0, 0, 0), (.iload_n 1, 0, 0, 0), (.imul, 0, 0, 0), (.iload_n 2, 0, 0, 0), (.iadd, 0, 0, 0), (.iaload, 0, 0, 0)]
theorem k_M_row_9_8 : bok m_M_row 9 b_M_row_9_8 = true := by decide +kernel
theorem d_M_row_3 : decode m_M_row.2.1 3 = .ok (.invokevirtual 318, 3) := by decide +kernel
theorem d_M_row_6 : decode m_M_row.2.1 6 = .ok (.ifCond .eq (16), 3) := by decide +kernel
theorem d_M_row_24 : decode m_M_row.2.1 24 = .ok (.ireturn, 1) := by decide +kernel
theorem d_M_row_19 : decode m_M_row.2.1 19 = .ok (.goto (5), 3) := by decide +kernel
def f_M_row  (S : hs) (x1 : Int32) (x2 : Int32) : Option (Int32 × hs) := bd (f_M_isRow  S x1 x2) fun r1 S2 => (if r1 = 0 then some ((-9 : Int32), S2) else ck (inb (((3 : Int32) * x1) + x2) 60) (some ((gI S2 205 ((((3 : Int32) * x1) + x2)).toNatClampNeg), S2)))
theorem c_M_row (w : Wd) (d : Nat) (c : cx)   (S : hs) (x1 : Int32) (x2 : Int32)  {z : Int32 × hs} (H : f_M_row S x1 x2 = some z) : Cl w (d + 3) m_M_row [.ref 191, .int x1, .int x2] (mk c S) (some (.int z.1)) (mk c z.2) := by
  refine Cl.of (Nat.le_refl _) (Nat.le_refl _) (by decide +kernel) (Nat.le_of_ble_eq_true rfl) ?_
  unfold f_M_row at H
  generalize hN (mk c S) = n0
  generalize hZ (mk c S) = z0
  show J w (d + 3) m_M_row (n0, z0, some (.int z.1), mk c z.2) 0 [some (.ref 191), some (.int x1), some (.int x2)] [] (mk c S)
  refine J.run b_M_row_0_3 k_M_row_0_3 rfl (show J w (d + 3) m_M_row (n0, z0, some (.int z.1), mk c z.2) 3 [some (.ref 191), some (.int x1), some (.int x2)] [.int x2, .int x1, .ref 191] (mk c S) from ?_)
  obtain ⟨r1, S2, h3, H⟩ := bd_e H
  refine J.callV (y := m_M_isRow) (av := [.int x1, .int x2]) (rest := []) (q := 191) l_M_318 d_M_row_3 (isC_st rfl rfl) (c_M_isRow w (d + 0) c  S x1 x2 h3) rfl (Nat.le_of_ble_eq_true rfl) ⟨Nat.le_refl _, Nat.le_refl _⟩ (show J w (d + 3) m_M_row (n0, z0, some (.int z.1), mk c z.2) 6 [some (.ref 191), some (.int x1), some (.int x2)] [.int r1] (mk c S2) from ?_)
  refine J.zeq (tgt := 22) d_M_row_6 rfl (fun q4 => ?_) (fun q4 => ?_)
  · have H := ite_t H q4
    refine J.run b_M_row_22_1 k_M_row_22_1 rfl (show J w (d + 3) m_M_row (n0, z0, some (.int z.1), mk c z.2) 24 [some (.ref 191), some (.int x1), some (.int x2)] [.int (-9 : Int32)] (mk c S2) from ?_)
    obtain rfl := some_e H
    exact J.iret d_M_row_24 rfl rfl
  · have H := ite_f H q4
    obtain ⟨g5, H⟩ := ck_e H
    refine J.run b_M_row_9_8 k_M_row_9_8 rfl (And.intro (okO_st (S := S2) rfl) (And.intro (okA_st (S := S2) (n := 60) rfl g5) (show J w (d + 3) m_M_row (n0, z0, some (.int z.1), mk c z.2) 19 [some (.ref 191), some (.int x1), some (.int x2)] [.int (gI S2 205 ((((3 : Int32) * x1) + x2)).toNatClampNeg)] (mk c S2) from ?_)))
    refine J.goto (tgt := 24) d_M_row_19 rfl ?_
    obtain rfl := some_e H
    exact J.iret d_M_row_24 rfl rfl
def b_M_alterRow_0_3 : List Ins := [(.aload_n 0, 0, 0, 0), (.iload_n 1, 0, 0, 0), (.iload_n 2, 0, 0, 0)]
theorem k_M_alterRow_0_3 : bok m_M_alterRow 0 b_M_alterRow_0_3 = true := by decide +kernel
def b_M_alterRow_12_19 : List Ins := [(.aload_n 0, 0, 0, 0), (.getfield 81, 11, 22, 2), (.iconst (3), 0, 0, 0), (.iload_n 1, 0, 0, 0), (.imul, 0, 0, 0), (.iload_n 2, 0, 0, 0), (.iadd, 0, 0, 0), (.iaload, 0, 0, 0), (.istore 4, 0, 0, 0), (.aload_n 0, 0, 0, 0), (.getfield 81, 11, 22, 2), (.iconst (3), 0, 0, 0), (.iload_n 1, 0, 0, 0), (.imul, 0, 0, 0), (.iload_n 2, 0, 0, 0), (.iadd, 0, 0, 0), (.iload_n 3, 0, 0, 0), (.iastore, 0, 0, 0), (.iload 4, 0, 0, 0)]
theorem k_M_alterRow_12_19 : bok m_M_alterRow 12 b_M_alterRow_12_19 = true := by decide +kernel
def b_M_alterRow_9_1 : List Ins := [(.bipush (-9), 0, 0, 0)]
theorem k_M_alterRow_9_1 : bok m_M_alterRow 9 b_M_alterRow_9_1 = true := by decide +kernel
theorem d_M_alterRow_3 : decode m_M_alterRow.2.1 3 = .ok (.invokevirtual 318, 3) := by decide +kernel
theorem d_M_alterRow_6 : decode m_M_alterRow.2.1 6 = .ok (.ifCond .ne (6), 3) := by decide +kernel
theorem d_M_alterRow_37 : decode m_M_alterRow.2.1 37 = .ok (.ireturn, 1) := by decide +kernel
theorem d_M_alterRow_11 : decode m_M_alterRow.2.1 11 = .ok (.ireturn, 1) := by decide +kernel
def f_M_alterRow  (S : hs) (x1 : Int32) (x2 : Int32) (x3 : Int32) : Option (Int32 × hs) := bd (f_M_isRow  S x1 x2) fun r1 S2 => (if r1 = 0 then some ((-9 : Int32), S2) else ck (inb (((3 : Int32) * x1) + x2) 60) (some ((gI S2 205 ((((3 : Int32) * x1) + x2)).toNatClampNeg), (uI S2 205 ((((3 : Int32) * x1) + x2)).toNatClampNeg x3))))
theorem c_M_alterRow (w : Wd) (d : Nat) (c : cx)   (S : hs) (x1 : Int32) (x2 : Int32) (x3 : Int32)  {z : Int32 × hs} (H : f_M_alterRow S x1 x2 x3 = some z) : Cl w (d + 3) m_M_alterRow [.ref 191, .int x1, .int x2, .int x3] (mk c S) (some (.int z.1)) (mk c z.2) := by
  refine Cl.of (Nat.le_refl _) (Nat.le_refl _) (by decide +kernel) (Nat.le_of_ble_eq_true rfl) ?_
  unfold f_M_alterRow at H
  generalize hN (mk c S) = n0
  generalize hZ (mk c S) = z0
  show J w (d + 3) m_M_alterRow (n0, z0, some (.int z.1), mk c z.2) 0 [some (.ref 191), some (.int x1), some (.int x2), some (.int x3), none] [] (mk c S)
  refine J.run b_M_alterRow_0_3 k_M_alterRow_0_3 rfl (show J w (d + 3) m_M_alterRow (n0, z0, some (.int z.1), mk c z.2) 3 [some (.ref 191), some (.int x1), some (.int x2), some (.int x3), none] [.int x2, .int x1, .ref 191] (mk c S) from ?_)
  obtain ⟨r1, S2, h3, H⟩ := bd_e H
  refine J.callV (y := m_M_isRow) (av := [.int x1, .int x2]) (rest := []) (q := 191) l_M_318 d_M_alterRow_3 (isC_st rfl rfl) (c_M_isRow w (d + 0) c  S x1 x2 h3) rfl (Nat.le_of_ble_eq_true rfl) ⟨Nat.le_refl _, Nat.le_refl _⟩ (show J w (d + 3) m_M_alterRow (n0, z0, some (.int z.1), mk c z.2) 6 [some (.ref 191), some (.int x1), some (.int x2), some (.int x3), none] [.int r1] (mk c S2) from ?_)
  refine J.zne (tgt := 12) d_M_alterRow_6 rfl (fun q4 => ?_) (fun q4 => ?_)
  · have H := ite_f H q4
    obtain ⟨g5, H⟩ := ck_e H
    refine J.run b_M_alterRow_12_19 k_M_alterRow_12_19 rfl (And.intro (okO_st (S := S2) rfl) (And.intro (okA_st (S := S2) (n := 60) rfl g5) (And.intro (okO_st (S := S2) rfl) (And.intro (okB_st (S := S2) (n := 60) rfl g5) (show J w (d + 3) m_M_alterRow (n0, z0, some (.int z.1), mk c z.2) 37 [some (.ref 191), some (.int x1), some (.int x2), some (.int x3), some (.int (gI S2 205 ((((3 : Int32) * x1) + x2)).toNatClampNeg))] [.int (gI S2 205 ((((3 : Int32) * x1) + x2)).toNatClampNeg)] (mk c (uI S2 205 ((((3 : Int32) * x1) + x2)).toNatClampNeg x3)) from ?_)))))
    obtain rfl := some_e H
    exact J.iret d_M_alterRow_37 rfl rfl
  · have H := ite_t H q4
    refine J.run b_M_alterRow_9_1 k_M_alterRow_9_1 rfl (show J w (d + 3) m_M_alterRow (n0, z0, some (.int z.1), mk c z.2) 11 [some (.ref 191), some (.int x1), some (.int x2), some (.int x3), none] [.int (-9 : Int32)] (mk c S2) from ?_)
    obtain rfl := some_e H
    exact J.iret d_M_alterRow_11 rfl rfl
def b_M_judge_0_2 : List Ins := [(.aload_n 0, 0, 0, 0), (.iload_n 1, 0, 0, 0)]
theorem k_M_judge_0_2 : bok m_M_judge 0 b_M_judge_0_2 = true := by decide +kernel
def b_M_judge_10_6 : List Ins := [(.iload_n 1, 0, 0, 0), (.istore_n 2, 0, 0, 0), (.iconst (0), 0, 0, 0), (.istore_n 3, 0, 0, 0), (.iconst (0), 0, 0, 0), (.istore 4, 0, 0, 0)]
theorem k_M_judge_10_6 : bok m_M_judge 10 b_M_judge_10_6 = true := by decide +kernel
def b_M_judge_17_3 : List Ins := [(.iload 4, 0, 0, 0), (.aload_n 0, 0, 0, 0), (.getfield 315, 11, 23, 0)]
theorem k_M_judge_17_3 : bok m_M_judge 17 b_M_judge_17_3 = true := by decide +kernel
def b_M_judge_121_1 : List Ins := [(.iconst (0), 0, 0, 0)]
theorem k_M_judge_121_1 : bok m_M_judge 121 b_M_judge_121_1 = true := by decide +kernel
def b_M_judge_26_8 : List Ins := [(.aload_n 0, 0, 0, 0), (.getfield 81, 11, 22, 2), (.iconst (3), 0, 0, 0), (.iload 4, 0, 0, 0), (.imul, 0, 0, 0), (.iaload, 0, 0, 0), (.istore 5, 0, 0, 0), (.iload 5, 0, 0, 0)]
theorem k_M_judge_26_8 : bok m_M_judge 26 b_M_judge_26_8 = true := by decide +kernel
def b_M_judge_56_3 : List Ins := [(.iconst (1), 0, 0, 0), (.iload 4, 0, 0, 0), (.iadd, 0, 0, 0)]
theorem k_M_judge_56_3 : bok m_M_judge 56 b_M_judge_56_3 = true := by decide +kernel
def b_M_judge_45_4 : List Ins := [(.aload_n 0, 0, 0, 0), (.iload_n 2, 0, 0, 0), (.iload 5, 0, 0, 0), (.iconst (0), 0, 0, 0)]
theorem k_M_judge_45_4 : bok m_M_judge 45 b_M_judge_45_4 = true := by decide +kernel
def b_M_judge_61_5 : List Ins := [(.iload_n 3, 0, 0, 0), (.aload_n 0, 0, 0, 0), (.iload 5, 0, 0, 0), (.iconst (2), 0, 0, 0), (.idiv, 0, 0, 0)]
theorem k_M_judge_61_5 : bok m_M_judge 61 b_M_judge_61_5 = true := by decide +kernel
def b_M_judge_70_12 : List Ins := [(.iadd, 0, 0, 0), (.istore_n 3, 0, 0, 0), (.aload_n 0, 0, 0, 0), (.getfield 81, 11, 22, 2), (.iconst (3), 0, 0, 0), (.iload 4, 0, 0, 0), (.imul, 0, 0, 0), (.iconst (1), 0, 0, 0), (.iadd, 0, 0, 0), (.iaload, 0, 0, 0), (.aload_n 0, 0, 0, 0), (.iload 5, 0, 0, 0)]
theorem k_M_judge_70_12 : bok m_M_judge 70 b_M_judge_70_12 = true := by decide +kernel
def b_M_judge_107_3 : List Ins := [(.iconst (1), 0, 0, 0), (.iload 4, 0, 0, 0), (.iadd, 0, 0, 0)]
theorem k_M_judge_107_3 : bok m_M_judge 107 b_M_judge_107_3 = true := by decide +kernel
def b_M_judge_92_9 : List Ins := [(.aload_n 0, 0, 0, 0), (.getfield 81, 11, 22, 2), (.iconst (3), 0, 0, 0), (.iload 4, 0, 0, 0), (.imul, 0, 0, 0), (.iconst (2), 0, 0, 0), (.iadd, 0, 0, 0), (.iaload, 0, 0, 0), (.iload_n 3, 0, 0, 0)]
theorem k_M_judge_92_9 : bok m_M_judge 92 b_M_judge_92_9 = true := by decide +kernel
def b_M_judge_112_3 : List Ins := [(.iload 5, 0, 0, 0), (.istore_n 2, 0, 0, 0), (.iinc 4 (1), 0, 0, 0)]
theorem k_M_judge_112_3 : bok m_M_judge 112 b_M_judge_112_3 = true := by decide +kernel
def b_M_judge_8_1 : List Ins := [(.iconst (-1), 0, 0, 0)]
theorem k_M_judge_8_1 : bok m_M_judge 8 b_M_judge_8_1 = true := by decide +kernel
theorem d_M_judge_2 : decode m_M_judge.2.1 2 = .ok (.invokevirtual 123, 3) := by decide +kernel
theorem d_M_judge_5 : decode m_M_judge.2.1 5 = .ok (.ifCond .ne (5), 3) := by decide +kernel
theorem d_M_judge_23 : decode m_M_judge.2.1 23 = .ok (.if_icmp .ge (98), 3) := by decide +kernel
theorem d_M_judge_122 : decode m_M_judge.2.1 122 = .ok (.ireturn, 1) := by decide +kernel
theorem d_M_judge_39 : decode m_M_judge.2.1 39 = .ok (.invokestatic 151, 3) := by decide +kernel
theorem d_M_judge_42 : decode m_M_judge.2.1 42 = .ok (.ifCond .eq (14), 3) := by decide +kernel
theorem d_M_judge_60 : decode m_M_judge.2.1 60 = .ok (.ireturn, 1) := by decide +kernel
theorem d_M_judge_50 : decode m_M_judge.2.1 50 = .ok (.invokevirtual 178, 3) := by decide +kernel
theorem d_M_judge_53 : decode m_M_judge.2.1 53 = .ok (.ifCond .ne (8), 3) := by decide +kernel
theorem d_M_judge_67 : decode m_M_judge.2.1 67 = .ok (.invokevirtual 142, 3) := by decide +kernel
theorem d_M_judge_86 : decode m_M_judge.2.1 86 = .ok (.invokevirtual 130, 3) := by decide +kernel
theorem d_M_judge_89 : decode m_M_judge.2.1 89 = .ok (.if_icmp .ne (18), 3) := by decide +kernel
theorem d_M_judge_111 : decode m_M_judge.2.1 111 = .ok (.ireturn, 1) := by decide +kernel
theorem d_M_judge_104 : decode m_M_judge.2.1 104 = .ok (.if_icmp .eq (8), 3) := by decide +kernel
theorem d_M_judge_118 : decode m_M_judge.2.1 118 = .ok (.goto (-101), 3) := by decide +kernel
theorem d_M_judge_9 : decode m_M_judge.2.1 9 = .ok (.ireturn, 1) := by decide +kernel
def lp_M_judge_17    : Nat → hs → Int32 → Int32 → Int32 → Option (Int32 × hs)
  | 0, _, _, _, _ => none
  | n + 1, S, x2, x3, x4 => (if (gI S 191 23) ≤ x4 then some ((0 : Int32), S) else ck (inb ((3 : Int32) * x4) 60) (bd (f_M_isIndex  S (gI S 205 (((3 : Int32) * x4)).toNatClampNeg)) fun r7 S8 => (if r7 = 0 then some (((1 : Int32) + x4), S8) else bd (f_M_mayGo  S8 x2 (gI S 205 (((3 : Int32) * x4)).toNatClampNeg) (0 : Int32)) fun r11 S12 => (if r11 = 0 then some (((1 : Int32) + x4), S12) else bd (f_M_longOf  S12 ((gI S 205 (((3 : Int32) * x4)).toNatClampNeg) / (2 : Int32))) fun r15 S16 => ck (inb (((3 : Int32) * x4) + (1 : Int32)) 60) (bd (f_M_endOf  S16 (gI S 205 (((3 : Int32) * x4)).toNatClampNeg)) fun r19 S20 => (if (gI S16 205 ((((3 : Int32) * x4) + (1 : Int32))).toNatClampNeg) = r19 then ck (inb (((3 : Int32) * x4) + (2 : Int32)) 60) ((if (gI S20 205 ((((3 : Int32) * x4) + (2 : Int32))).toNatClampNeg) = (x3 + r15) then lp_M_judge_17  n S20 (gI S 205 (((3 : Int32) * x4)).toNatClampNeg) (x3 + r15) (x4 + (1 : Int32)) else some (((1 : Int32) + x4), S20))) else some (((1 : Int32) + x4), S20)))))))
def f_M_judge  (S : hs) (x1 : Int32) : Option (Int32 × hs) := bd (f_M_isCourse  S x1) fun r1 S2 => (if r1 = 0 then some ((-1 : Int32), S2) else lp_M_judge_17  1000 S2 x1 (0 : Int32) (0 : Int32))
theorem lo_M_judge_17 (w : Wd) (d : Nat) (c : cx) {n0 z0 : Nat} {z : Int32 × hs}       :
    ∀ (n : Nat) (S : hs) (x2 : Int32) (x3 : Int32) (x4 : Int32), lp_M_judge_17  n S x2 x3 x4 = some z → J w (d + 7) m_M_judge (n0, z0, some (.int z.1), mk c z.2) 17 [some (.ref 191), none, some (.int x2), some (.int x3), some (.int x4), none] [] (mk c S) := by
  intro n
  induction n with
  | zero => intro S x2 x3 x4 H; cases H
  | succ n ih =>
    intro S x2 x3 x4 H
    rw [lp_M_judge_17] at H
    refine J.run b_M_judge_17_3 k_M_judge_17_3 rfl (And.intro (okO_st (S := S) rfl) (show J w (d + 7) m_M_judge (n0, z0, some (.int z.1), mk c z.2) 23 [some (.ref 191), none, some (.int x2), some (.int x3), some (.int x4), none] [.int (gI S 191 23), .int x4] (mk c S) from ?_))
    refine J.cge (tgt := 121) d_M_judge_23 rfl (fun q5 => ?_) (fun q5 => ?_)
    · have H := ite_t H q5
      refine J.run b_M_judge_121_1 k_M_judge_121_1 rfl (show J w (d + 7) m_M_judge (n0, z0, some (.int z.1), mk c z.2) 122 [some (.ref 191), none, some (.int x2), some (.int x3), some (.int x4), none] [.int (0 : Int32)] (mk c S) from ?_)
      obtain rfl := some_e H
      exact J.iret d_M_judge_122 rfl rfl
    · have H := ite_f H q5
      obtain ⟨g6, H⟩ := ck_e H
      refine J.run b_M_judge_26_8 k_M_judge_26_8 rfl (And.intro (okO_st (S := S) rfl) (And.intro (okA_st (S := S) (n := 60) rfl g6) (show J w (d + 7) m_M_judge (n0, z0, some (.int z.1), mk c z.2) 39 [some (.ref 191), none, some (.int x2), some (.int x3), some (.int x4), some (.int (gI S 205 (((3 : Int32) * x4)).toNatClampNeg))] [.int (gI S 205 (((3 : Int32) * x4)).toNatClampNeg)] (mk c S) from ?_)))
      obtain ⟨r7, S8, h9, H⟩ := bd_e H
      refine J.callS (y := m_M_isIndex) (av := [.int (gI S 205 (((3 : Int32) * x4)).toNatClampNeg)]) (rest := []) l_M_151 d_M_judge_39 (c_M_isIndex w (d + 4) c  S (gI S 205 (((3 : Int32) * x4)).toNatClampNeg) h9) rfl (Nat.le_of_ble_eq_true rfl) ⟨Nat.le_refl _, Nat.le_refl _⟩ (show J w (d + 7) m_M_judge (n0, z0, some (.int z.1), mk c z.2) 42 [some (.ref 191), none, some (.int x2), some (.int x3), some (.int x4), some (.int (gI S 205 (((3 : Int32) * x4)).toNatClampNeg))] [.int r7] (mk c S8) from ?_)
      refine J.zeq (tgt := 56) d_M_judge_42 rfl (fun q10 => ?_) (fun q10 => ?_)
      · have H := ite_t H q10
        refine J.run b_M_judge_56_3 k_M_judge_56_3 rfl (show J w (d + 7) m_M_judge (n0, z0, some (.int z.1), mk c z.2) 60 [some (.ref 191), none, some (.int x2), some (.int x3), some (.int x4), some (.int (gI S 205 (((3 : Int32) * x4)).toNatClampNeg))] [.int ((1 : Int32) + x4)] (mk c S8) from ?_)
        obtain rfl := some_e H
        exact J.iret d_M_judge_60 rfl rfl
      · have H := ite_f H q10
        refine J.run b_M_judge_45_4 k_M_judge_45_4 rfl (show J w (d + 7) m_M_judge (n0, z0, some (.int z.1), mk c z.2) 50 [some (.ref 191), none, some (.int x2), some (.int x3), some (.int x4), some (.int (gI S 205 (((3 : Int32) * x4)).toNatClampNeg))] [.int (0 : Int32), .int (gI S 205 (((3 : Int32) * x4)).toNatClampNeg), .int x2, .ref 191] (mk c S8) from ?_)
        obtain ⟨r11, S12, h13, H⟩ := bd_e H
        refine J.callV (y := m_M_mayGo) (av := [.int x2, .int (gI S 205 (((3 : Int32) * x4)).toNatClampNeg), .int (0 : Int32)]) (rest := []) (q := 191) l_M_178 d_M_judge_50 (isC_st rfl rfl) (c_M_mayGo w (d + 0) c  S8 x2 (gI S 205 (((3 : Int32) * x4)).toNatClampNeg) (0 : Int32) h13) rfl (Nat.le_of_ble_eq_true rfl) ⟨Nat.le_refl _, Nat.le_refl _⟩ (show J w (d + 7) m_M_judge (n0, z0, some (.int z.1), mk c z.2) 53 [some (.ref 191), none, some (.int x2), some (.int x3), some (.int x4), some (.int (gI S 205 (((3 : Int32) * x4)).toNatClampNeg))] [.int r11] (mk c S12) from ?_)
        refine J.zne (tgt := 61) d_M_judge_53 rfl (fun q14 => ?_) (fun q14 => ?_)
        · have H := ite_f H q14
          refine J.run b_M_judge_61_5 k_M_judge_61_5 rfl (And.intro (by decide) (show J w (d + 7) m_M_judge (n0, z0, some (.int z.1), mk c z.2) 67 [some (.ref 191), none, some (.int x2), some (.int x3), some (.int x4), some (.int (gI S 205 (((3 : Int32) * x4)).toNatClampNeg))] [.int ((gI S 205 (((3 : Int32) * x4)).toNatClampNeg) / (2 : Int32)), .ref 191, .int x3] (mk c S12) from ?_))
          obtain ⟨r15, S16, h17, H⟩ := bd_e H
          refine J.callV (y := m_M_longOf) (av := [.int ((gI S 205 (((3 : Int32) * x4)).toNatClampNeg) / (2 : Int32))]) (rest := [.int x3]) (q := 191) l_M_142 d_M_judge_67 (isC_st rfl rfl) (c_M_longOf w (d + 4) c  S12 ((gI S 205 (((3 : Int32) * x4)).toNatClampNeg) / (2 : Int32)) h17) rfl (Nat.le_of_ble_eq_true rfl) ⟨Nat.le_refl _, Nat.le_refl _⟩ (show J w (d + 7) m_M_judge (n0, z0, some (.int z.1), mk c z.2) 70 [some (.ref 191), none, some (.int x2), some (.int x3), some (.int x4), some (.int (gI S 205 (((3 : Int32) * x4)).toNatClampNeg))] [.int r15, .int x3] (mk c S16) from ?_)
          obtain ⟨g18, H⟩ := ck_e H
          refine J.run b_M_judge_70_12 k_M_judge_70_12 rfl (And.intro (okO_st (S := S16) rfl) (And.intro (okA_st (S := S16) (n := 60) rfl g18) (show J w (d + 7) m_M_judge (n0, z0, some (.int z.1), mk c z.2) 86 [some (.ref 191), none, some (.int x2), some (.int (x3 + r15)), some (.int x4), some (.int (gI S 205 (((3 : Int32) * x4)).toNatClampNeg))] [.int (gI S 205 (((3 : Int32) * x4)).toNatClampNeg), .ref 191, .int (gI S16 205 ((((3 : Int32) * x4) + (1 : Int32))).toNatClampNeg)] (mk c S16) from ?_)))
          obtain ⟨r19, S20, h21, H⟩ := bd_e H
          refine J.callV (y := m_M_endOf) (av := [.int (gI S 205 (((3 : Int32) * x4)).toNatClampNeg)]) (rest := [.int (gI S16 205 ((((3 : Int32) * x4) + (1 : Int32))).toNatClampNeg)]) (q := 191) l_M_130 d_M_judge_86 (isC_st rfl rfl) (c_M_endOf w (d + 4) c  S16 (gI S 205 (((3 : Int32) * x4)).toNatClampNeg) h21) rfl (Nat.le_of_ble_eq_true rfl) ⟨Nat.le_refl _, Nat.le_refl _⟩ (show J w (d + 7) m_M_judge (n0, z0, some (.int z.1), mk c z.2) 89 [some (.ref 191), none, some (.int x2), some (.int (x3 + r15)), some (.int x4), some (.int (gI S 205 (((3 : Int32) * x4)).toNatClampNeg))] [.int r19, .int (gI S16 205 ((((3 : Int32) * x4) + (1 : Int32))).toNatClampNeg)] (mk c S20) from ?_)
          refine J.cne (tgt := 107) d_M_judge_89 rfl (fun q22 => ?_) (fun q22 => ?_)
          · have H := ite_f H q22
            refine J.run b_M_judge_107_3 k_M_judge_107_3 rfl (show J w (d + 7) m_M_judge (n0, z0, some (.int z.1), mk c z.2) 111 [some (.ref 191), none, some (.int x2), some (.int (x3 + r15)), some (.int x4), some (.int (gI S 205 (((3 : Int32) * x4)).toNatClampNeg))] [.int ((1 : Int32) + x4)] (mk c S20) from ?_)
            obtain rfl := some_e H
            exact J.iret d_M_judge_111 rfl rfl
          · have H := ite_t H q22
            obtain ⟨g23, H⟩ := ck_e H
            refine J.run b_M_judge_92_9 k_M_judge_92_9 rfl (And.intro (okO_st (S := S20) rfl) (And.intro (okA_st (S := S20) (n := 60) rfl g23) (show J w (d + 7) m_M_judge (n0, z0, some (.int z.1), mk c z.2) 104 [some (.ref 191), none, some (.int x2), some (.int (x3 + r15)), some (.int x4), some (.int (gI S 205 (((3 : Int32) * x4)).toNatClampNeg))] [.int (x3 + r15), .int (gI S20 205 ((((3 : Int32) * x4) + (2 : Int32))).toNatClampNeg)] (mk c S20) from ?_)))
            refine J.ceq (tgt := 112) d_M_judge_104 rfl (fun q24 => ?_) (fun q24 => ?_)
            · have H := ite_t H q24
              refine J.run b_M_judge_112_3 k_M_judge_112_3 rfl (show J w (d + 7) m_M_judge (n0, z0, some (.int z.1), mk c z.2) 118 [some (.ref 191), none, some (.int (gI S 205 (((3 : Int32) * x4)).toNatClampNeg)), some (.int (x3 + r15)), some (.int (x4 + (1 : Int32))), some (.int (gI S 205 (((3 : Int32) * x4)).toNatClampNeg))] [] (mk c S20) from ?_)
              refine J.goto (tgt := 17) d_M_judge_118 rfl ?_
              refine J.mask [true, false, true, true, true, false] ?_
              exact ih S20 (gI S 205 (((3 : Int32) * x4)).toNatClampNeg) (x3 + r15) (x4 + (1 : Int32)) H
            · have H := ite_f H q24
              refine J.run b_M_judge_107_3 k_M_judge_107_3 rfl (show J w (d + 7) m_M_judge (n0, z0, some (.int z.1), mk c z.2) 111 [some (.ref 191), none, some (.int x2), some (.int (x3 + r15)), some (.int x4), some (.int (gI S 205 (((3 : Int32) * x4)).toNatClampNeg))] [.int ((1 : Int32) + x4)] (mk c S20) from ?_)
              obtain rfl := some_e H
              exact J.iret d_M_judge_111 rfl rfl
        · have H := ite_t H q14
          refine J.run b_M_judge_56_3 k_M_judge_56_3 rfl (show J w (d + 7) m_M_judge (n0, z0, some (.int z.1), mk c z.2) 60 [some (.ref 191), none, some (.int x2), some (.int x3), some (.int x4), some (.int (gI S 205 (((3 : Int32) * x4)).toNatClampNeg))] [.int ((1 : Int32) + x4)] (mk c S12) from ?_)
          obtain rfl := some_e H
          exact J.iret d_M_judge_60 rfl rfl
theorem c_M_judge (w : Wd) (d : Nat) (c : cx)   (S : hs) (x1 : Int32)  {z : Int32 × hs} (H : f_M_judge S x1 = some z) : Cl w (d + 7) m_M_judge [.ref 191, .int x1] (mk c S) (some (.int z.1)) (mk c z.2) := by
  refine Cl.of (Nat.le_refl _) (Nat.le_refl _) (by decide +kernel) (Nat.le_of_ble_eq_true rfl) ?_
  unfold f_M_judge at H
  generalize hN (mk c S) = n0
  generalize hZ (mk c S) = z0
  show J w (d + 7) m_M_judge (n0, z0, some (.int z.1), mk c z.2) 0 [some (.ref 191), some (.int x1), none, none, none, none] [] (mk c S)
  refine J.run b_M_judge_0_2 k_M_judge_0_2 rfl (show J w (d + 7) m_M_judge (n0, z0, some (.int z.1), mk c z.2) 2 [some (.ref 191), some (.int x1), none, none, none, none] [.int x1, .ref 191] (mk c S) from ?_)
  obtain ⟨r1, S2, h3, H⟩ := bd_e H
  refine J.callV (y := m_M_isCourse) (av := [.int x1]) (rest := []) (q := 191) l_M_123 d_M_judge_2 (isC_st rfl rfl) (c_M_isCourse w (d + 4) c  S x1 h3) rfl (Nat.le_of_ble_eq_true rfl) ⟨Nat.le_refl _, Nat.le_refl _⟩ (show J w (d + 7) m_M_judge (n0, z0, some (.int z.1), mk c z.2) 5 [some (.ref 191), some (.int x1), none, none, none, none] [.int r1] (mk c S2) from ?_)
  refine J.zne (tgt := 10) d_M_judge_5 rfl (fun q4 => ?_) (fun q4 => ?_)
  · have H := ite_f H q4
    refine J.run b_M_judge_10_6 k_M_judge_10_6 rfl (show J w (d + 7) m_M_judge (n0, z0, some (.int z.1), mk c z.2) 17 [some (.ref 191), some (.int x1), some (.int x1), some (.int (0 : Int32)), some (.int (0 : Int32)), none] [] (mk c S2) from ?_)
    refine J.mask [true, false, true, true, true, false] ?_
    refine lo_M_judge_17 w d c   1000 S2 x1 (0 : Int32) (0 : Int32) H
  · have H := ite_t H q4
    refine J.run b_M_judge_8_1 k_M_judge_8_1 rfl (show J w (d + 7) m_M_judge (n0, z0, some (.int z.1), mk c z.2) 9 [some (.ref 191), some (.int x1), none, none, none, none] [.int (-1 : Int32)] (mk c S2) from ?_)
    obtain rfl := some_e H
    exact J.iret d_M_judge_9 rfl rfl
def b_M_isSheet_0_3 : List Ins := [(.iload_n 0, 0, 0, 0), (.iconst (0), 0, 0, 0), (.iconst (3), 0, 0, 0)]
theorem k_M_isSheet_0_3 : bok m_M_isSheet 0 b_M_isSheet_0_3 = true := by decide +kernel
theorem d_M_isSheet_3 : decode m_M_isSheet.2.1 3 = .ok (.invokestatic 105, 3) := by decide +kernel
theorem d_M_isSheet_6 : decode m_M_isSheet.2.1 6 = .ok (.ireturn, 1) := by decide +kernel
def f_M_isSheet  (S : hs) (x0 : Int32) : Option (Int32 × hs) := bd (f_M_in  S x0 (0 : Int32) (3 : Int32)) fun r1 S2 => ck (isB r1) (some (r1, S2))
theorem c_M_isSheet (w : Wd) (d : Nat) (c : cx)   (S : hs) (x0 : Int32)  {z : Int32 × hs} (H : f_M_isSheet S x0 = some z) : Cl w (d + 2) m_M_isSheet [.int x0] (mk c S) (some (.int z.1)) (mk c z.2) := by
  refine Cl.of (Nat.le_refl _) (Nat.le_refl _) (by decide +kernel) (Nat.le_of_ble_eq_true rfl) ?_
  unfold f_M_isSheet at H
  generalize hN (mk c S) = n0
  generalize hZ (mk c S) = z0
  show J w (d + 2) m_M_isSheet (n0, z0, some (.int z.1), mk c z.2) 0 [some (.int x0)] [] (mk c S)
  refine J.run b_M_isSheet_0_3 k_M_isSheet_0_3 rfl (show J w (d + 2) m_M_isSheet (n0, z0, some (.int z.1), mk c z.2) 3 [some (.int x0)] [.int (3 : Int32), .int (0 : Int32), .int x0] (mk c S) from ?_)
  obtain ⟨r1, S2, h3, H⟩ := bd_e H
  refine J.callS (y := m_M_in) (av := [.int x0, .int (0 : Int32), .int (3 : Int32)]) (rest := []) l_M_105 d_M_isSheet_3 (c_M_in w (d + 0) c  S x0 (0 : Int32) (3 : Int32) h3) rfl (Nat.le_of_ble_eq_true rfl) ⟨Nat.le_refl _, Nat.le_refl _⟩ (show J w (d + 2) m_M_isSheet (n0, z0, some (.int z.1), mk c z.2) 6 [some (.int x0)] [.int r1] (mk c S2) from ?_)
  obtain ⟨g4, H⟩ := ck_e H
  obtain rfl := some_e H
  exact J.nret d_M_isSheet_6 rfl (isB_n g4) rfl
def b_M_sheet_0_1 : List Ins := [(.iload_n 1, 0, 0, 0)]
theorem k_M_sheet_0_1 : bok m_M_sheet 0 b_M_sheet_0_1 = true := by decide +kernel
def b_M_sheet_26_1 : List Ins := [(.iconst (-1), 0, 0, 0)]
theorem k_M_sheet_26_1 : bok m_M_sheet 26 b_M_sheet_26_1 = true := by decide +kernel
def b_M_sheet_7_3 : List Ins := [(.iload_n 2, 0, 0, 0), (.iconst (-1), 0, 0, 0), (.iconst (4), 0, 0, 0)]
theorem k_M_sheet_7_3 : bok m_M_sheet 7 b_M_sheet_7_3 = true := by decide +kernel
def b_M_sheet_16_1 : List Ins := [(.iload_n 2, 0, 0, 0)]
theorem k_M_sheet_16_1 : bok m_M_sheet 16 b_M_sheet_16_1 = true := by decide +kernel
def b_M_sheet_28_1 : List Ins := [(.iload_n 2, 0, 0, 0)]
theorem k_M_sheet_28_1 : bok m_M_sheet 28 b_M_sheet_28_1 = true := by decide +kernel
def b_M_sheet_39_9 : List Ins := [(.aload_n 0, 0, 0, 0), (.getfield 87, 11, 25, 2), (.iload_n 1, 0, 0, 0), (.iload_n 2, 0, 0, 0), (.iastore, 0, 0, 0), (.aload_n 0, 0, 0, 0), (.getfield 90, 11, 26, 2), (.iload_n 1, 0, 0, 0), (.iload_n 2, 0, 0, 0)]
theorem k_M_sheet_39_9 : bok m_M_sheet 39 b_M_sheet_39_9 = true := by decide +kernel
def b_M_sheet_59_4 : List Ins := [(.iload_n 3, 0, 0, 0), (.iastore, 0, 0, 0), (.iconst (0), 0, 0, 0), (.istore 4, 0, 0, 0)]
theorem k_M_sheet_59_4 : bok m_M_sheet 59 b_M_sheet_59_4 = true := by decide +kernel
def b_M_sheet_64_2 : List Ins := [(.iload 4, 0, 0, 0), (.bipush (40), 0, 0, 0)]
theorem k_M_sheet_64_2 : bok m_M_sheet 64 b_M_sheet_64_2 = true := by decide +kernel
def b_M_sheet_90_1 : List Ins := [(.iconst (1), 0, 0, 0)]
theorem k_M_sheet_90_1 : bok m_M_sheet 90 b_M_sheet_90_1 = true := by decide +kernel
def b_M_sheet_71_10 : List Ins := [(.aload_n 0, 0, 0, 0), (.getfield 84, 11, 24, 2), (.bipush (40), 0, 0, 0), (.iload_n 1, 0, 0, 0), (.imul, 0, 0, 0), (.iload 4, 0, 0, 0), (.iadd, 0, 0, 0), (.iconst (0), 0, 0, 0), (.iastore, 0, 0, 0), (.iinc 4 (1), 0, 0, 0)]
theorem k_M_sheet_71_10 : bok m_M_sheet 71 b_M_sheet_71_10 = true := by decide +kernel
def b_M_sheet_55_1 : List Ins := [(.iconst (0), 0, 0, 0)]
theorem k_M_sheet_55_1 : bok m_M_sheet 55 b_M_sheet_55_1 = true := by decide +kernel
def b_M_sheet_60_3 : List Ins := [(.iastore, 0, 0, 0), (.iconst (0), 0, 0, 0), (.istore 4, 0, 0, 0)]
theorem k_M_sheet_60_3 : bok m_M_sheet 60 b_M_sheet_60_3 = true := by decide +kernel
def b_M_sheet_32_1 : List Ins := [(.iload_n 3, 0, 0, 0)]
theorem k_M_sheet_32_1 : bok m_M_sheet 32 b_M_sheet_32_1 = true := by decide +kernel
def b_M_sheet_36_1 : List Ins := [(.bipush (-14), 0, 0, 0)]
theorem k_M_sheet_36_1 : bok m_M_sheet 36 b_M_sheet_36_1 = true := by decide +kernel
def b_M_sheet_20_2 : List Ins := [(.iload_n 3, 0, 0, 0), (.bipush (40), 0, 0, 0)]
theorem k_M_sheet_20_2 : bok m_M_sheet 20 b_M_sheet_20_2 = true := by decide +kernel
theorem d_M_sheet_1 : decode m_M_sheet.2.1 1 = .ok (.invokestatic 321, 3) := by decide +kernel
theorem d_M_sheet_4 : decode m_M_sheet.2.1 4 = .ok (.ifCond .eq (22), 3) := by decide +kernel
theorem d_M_sheet_27 : decode m_M_sheet.2.1 27 = .ok (.ireturn, 1) := by decide +kernel
theorem d_M_sheet_10 : decode m_M_sheet.2.1 10 = .ok (.invokestatic 105, 3) := by decide +kernel
theorem d_M_sheet_13 : decode m_M_sheet.2.1 13 = .ok (.ifCond .eq (13), 3) := by decide +kernel
theorem d_M_sheet_17 : decode m_M_sheet.2.1 17 = .ok (.ifCond .lt (11), 3) := by decide +kernel
theorem d_M_sheet_29 : decode m_M_sheet.2.1 29 = .ok (.ifCond .lt (10), 3) := by decide +kernel
theorem d_M_sheet_52 : decode m_M_sheet.2.1 52 = .ok (.ifCond .ge (7), 3) := by decide +kernel
theorem d_M_sheet_68 : decode m_M_sheet.2.1 68 = .ok (.if_icmp .ge (22), 3) := by decide +kernel
theorem d_M_sheet_91 : decode m_M_sheet.2.1 91 = .ok (.ireturn, 1) := by decide +kernel
theorem d_M_sheet_87 : decode m_M_sheet.2.1 87 = .ok (.goto (-23), 3) := by decide +kernel
theorem d_M_sheet_56 : decode m_M_sheet.2.1 56 = .ok (.goto (4), 3) := by decide +kernel
theorem d_M_sheet_33 : decode m_M_sheet.2.1 33 = .ok (.ifCond .ge (6), 3) := by decide +kernel
theorem d_M_sheet_38 : decode m_M_sheet.2.1 38 = .ok (.ireturn, 1) := by decide +kernel
theorem d_M_sheet_23 : decode m_M_sheet.2.1 23 = .ok (.if_icmp .le (5), 3) := by decide +kernel
def lp_M_sheet_64 (x1 : Int32)   : Nat → hs → Int32 → Option (Int32 × hs)
  | 0, _, _ => none
  | n + 1, S, x4 => (if (40 : Int32) ≤ x4 then some ((1 : Int32), S) else ck (inb (((40 : Int32) * x1) + x4) 160) (lp_M_sheet_64 x1 n (uI S 206 ((((40 : Int32) * x1) + x4)).toNatClampNeg (0 : Int32)) (x4 + (1 : Int32))))
def f_M_sheet  (S : hs) (x1 : Int32) (x2 : Int32) (x3 : Int32) : Option (Int32 × hs) := bd (f_M_isSheet  S x1) fun r1 S2 => (if r1 = 0 then some ((-1 : Int32), S2) else bd (f_M_in  S2 x2 (-1 : Int32) (4 : Int32)) fun r5 S6 => (if r5 = 0 then some ((-1 : Int32), S6) else (if x2 < 0 then (if x2 < 0 then ck (inb x1 4) ((if 0 ≤ x2 then lp_M_sheet_64 x1 1000 (uI (uI S6 207 (x1).toNatClampNeg x2) 208 (x1).toNatClampNeg x3) (0 : Int32) else lp_M_sheet_64 x1 1000 (uI (uI S6 207 (x1).toNatClampNeg x2) 208 (x1).toNatClampNeg (0 : Int32)) (0 : Int32))) else (if 0 ≤ x3 then ck (inb x1 4) ((if 0 ≤ x2 then lp_M_sheet_64 x1 1000 (uI (uI S6 207 (x1).toNatClampNeg x2) 208 (x1).toNatClampNeg x3) (0 : Int32) else lp_M_sheet_64 x1 1000 (uI (uI S6 207 (x1).toNatClampNeg x2) 208 (x1).toNatClampNeg (0 : Int32)) (0 : Int32))) else some ((-14 : Int32), S6))) else (if x3 ≤ (40 : Int32) then (if x2 < 0 then ck (inb x1 4) ((if 0 ≤ x2 then lp_M_sheet_64 x1 1000 (uI (uI S6 207 (x1).toNatClampNeg x2) 208 (x1).toNatClampNeg x3) (0 : Int32) else lp_M_sheet_64 x1 1000 (uI (uI S6 207 (x1).toNatClampNeg x2) 208 (x1).toNatClampNeg (0 : Int32)) (0 : Int32))) else (if 0 ≤ x3 then ck (inb x1 4) ((if 0 ≤ x2 then lp_M_sheet_64 x1 1000 (uI (uI S6 207 (x1).toNatClampNeg x2) 208 (x1).toNatClampNeg x3) (0 : Int32) else lp_M_sheet_64 x1 1000 (uI (uI S6 207 (x1).toNatClampNeg x2) 208 (x1).toNatClampNeg (0 : Int32)) (0 : Int32))) else some ((-14 : Int32), S6))) else some ((-1 : Int32), S6)))))
theorem lo_M_sheet_64 (w : Wd) (d : Nat) (c : cx) {n0 z0 : Nat} {z : Int32 × hs}   (x1 : Int32)    :
    ∀ (n : Nat) (S : hs) (x4 : Int32), lp_M_sheet_64 x1 n S x4 = some z → J w (d + 3) m_M_sheet (n0, z0, some (.int z.1), mk c z.2) 64 [some (.ref 191), some (.int x1), none, none, some (.int x4)] [] (mk c S) := by
  intro n
  induction n with
  | zero => intro S x4 H; cases H
  | succ n ih =>
    intro S x4 H
    rw [lp_M_sheet_64] at H
    refine J.run b_M_sheet_64_2 k_M_sheet_64_2 rfl (show J w (d + 3) m_M_sheet (n0, z0, some (.int z.1), mk c z.2) 68 [some (.ref 191), some (.int x1), none, none, some (.int x4)] [.int (40 : Int32), .int x4] (mk c S) from ?_)
    refine J.cge (tgt := 90) d_M_sheet_68 rfl (fun q13 => ?_) (fun q13 => ?_)
    · have H := ite_t H q13
      refine J.run b_M_sheet_90_1 k_M_sheet_90_1 rfl (show J w (d + 3) m_M_sheet (n0, z0, some (.int z.1), mk c z.2) 91 [some (.ref 191), some (.int x1), none, none, some (.int x4)] [.int (1 : Int32)] (mk c S) from ?_)
      obtain rfl := some_e H
      exact J.iret d_M_sheet_91 rfl rfl
    · have H := ite_f H q13
      obtain ⟨g14, H⟩ := ck_e H
      refine J.run b_M_sheet_71_10 k_M_sheet_71_10 rfl (And.intro (okO_st (S := S) rfl) (And.intro (okB_st (S := S) (n := 160) rfl g14) (show J w (d + 3) m_M_sheet (n0, z0, some (.int z.1), mk c z.2) 87 [some (.ref 191), some (.int x1), none, none, some (.int (x4 + (1 : Int32)))] [] (mk c (uI S 206 ((((40 : Int32) * x1) + x4)).toNatClampNeg (0 : Int32))) from ?_)))
      refine J.goto (tgt := 64) d_M_sheet_87 rfl ?_
      refine J.mask [true, true, false, false, true] ?_
      exact ih (uI S 206 ((((40 : Int32) * x1) + x4)).toNatClampNeg (0 : Int32)) (x4 + (1 : Int32)) H
theorem c_M_sheet (w : Wd) (d : Nat) (c : cx)   (S : hs) (x1 : Int32) (x2 : Int32) (x3 : Int32)  {z : Int32 × hs} (H : f_M_sheet S x1 x2 x3 = some z) : Cl w (d + 3) m_M_sheet [.ref 191, .int x1, .int x2, .int x3] (mk c S) (some (.int z.1)) (mk c z.2) := by
  refine Cl.of (Nat.le_refl _) (Nat.le_refl _) (by decide +kernel) (Nat.le_of_ble_eq_true rfl) ?_
  unfold f_M_sheet at H
  generalize hN (mk c S) = n0
  generalize hZ (mk c S) = z0
  show J w (d + 3) m_M_sheet (n0, z0, some (.int z.1), mk c z.2) 0 [some (.ref 191), some (.int x1), some (.int x2), some (.int x3), none] [] (mk c S)
  refine J.run b_M_sheet_0_1 k_M_sheet_0_1 rfl (show J w (d + 3) m_M_sheet (n0, z0, some (.int z.1), mk c z.2) 1 [some (.ref 191), some (.int x1), some (.int x2), some (.int x3), none] [.int x1] (mk c S) from ?_)
  obtain ⟨r1, S2, h3, H⟩ := bd_e H
  refine J.callS (y := m_M_isSheet) (av := [.int x1]) (rest := []) l_M_321 d_M_sheet_1 (c_M_isSheet w (d + 0) c  S x1 h3) rfl (Nat.le_of_ble_eq_true rfl) ⟨Nat.le_refl _, Nat.le_refl _⟩ (show J w (d + 3) m_M_sheet (n0, z0, some (.int z.1), mk c z.2) 4 [some (.ref 191), some (.int x1), some (.int x2), some (.int x3), none] [.int r1] (mk c S2) from ?_)
  refine J.zeq (tgt := 26) d_M_sheet_4 rfl (fun q4 => ?_) (fun q4 => ?_)
  · have H := ite_t H q4
    refine J.run b_M_sheet_26_1 k_M_sheet_26_1 rfl (show J w (d + 3) m_M_sheet (n0, z0, some (.int z.1), mk c z.2) 27 [some (.ref 191), some (.int x1), some (.int x2), some (.int x3), none] [.int (-1 : Int32)] (mk c S2) from ?_)
    obtain rfl := some_e H
    exact J.iret d_M_sheet_27 rfl rfl
  · have H := ite_f H q4
    refine J.run b_M_sheet_7_3 k_M_sheet_7_3 rfl (show J w (d + 3) m_M_sheet (n0, z0, some (.int z.1), mk c z.2) 10 [some (.ref 191), some (.int x1), some (.int x2), some (.int x3), none] [.int (4 : Int32), .int (-1 : Int32), .int x2] (mk c S2) from ?_)
    obtain ⟨r5, S6, h7, H⟩ := bd_e H
    refine J.callS (y := m_M_in) (av := [.int x2, .int (-1 : Int32), .int (4 : Int32)]) (rest := []) l_M_105 d_M_sheet_10 (c_M_in w (d + 1) c  S2 x2 (-1 : Int32) (4 : Int32) h7) rfl (Nat.le_of_ble_eq_true rfl) ⟨Nat.le_refl _, Nat.le_refl _⟩ (show J w (d + 3) m_M_sheet (n0, z0, some (.int z.1), mk c z.2) 13 [some (.ref 191), some (.int x1), some (.int x2), some (.int x3), none] [.int r5] (mk c S6) from ?_)
    refine J.zeq (tgt := 26) d_M_sheet_13 rfl (fun q8 => ?_) (fun q8 => ?_)
    · have H := ite_t H q8
      refine J.run b_M_sheet_26_1 k_M_sheet_26_1 rfl (show J w (d + 3) m_M_sheet (n0, z0, some (.int z.1), mk c z.2) 27 [some (.ref 191), some (.int x1), some (.int x2), some (.int x3), none] [.int (-1 : Int32)] (mk c S6) from ?_)
      obtain rfl := some_e H
      exact J.iret d_M_sheet_27 rfl rfl
    · have H := ite_f H q8
      refine J.run b_M_sheet_16_1 k_M_sheet_16_1 rfl (show J w (d + 3) m_M_sheet (n0, z0, some (.int z.1), mk c z.2) 17 [some (.ref 191), some (.int x1), some (.int x2), some (.int x3), none] [.int x2] (mk c S6) from ?_)
      refine J.zlt (tgt := 28) d_M_sheet_17 rfl (fun q9 => ?_) (fun q9 => ?_)
      · have H := ite_t H q9
        refine J.run b_M_sheet_28_1 k_M_sheet_28_1 rfl (show J w (d + 3) m_M_sheet (n0, z0, some (.int z.1), mk c z.2) 29 [some (.ref 191), some (.int x1), some (.int x2), some (.int x3), none] [.int x2] (mk c S6) from ?_)
        refine J.zlt (tgt := 39) d_M_sheet_29 rfl (fun q10 => ?_) (fun q10 => ?_)
        · have H := ite_t H q10
          obtain ⟨g11, H⟩ := ck_e H
          refine J.run b_M_sheet_39_9 k_M_sheet_39_9 rfl (And.intro (okO_st (S := S6) rfl) (And.intro (okB_st (S := S6) (n := 4) rfl g11) (And.intro (okO_st (S := (uI S6 207 (x1).toNatClampNeg x2)) rfl) (show J w (d + 3) m_M_sheet (n0, z0, some (.int z.1), mk c z.2) 52 [some (.ref 191), some (.int x1), some (.int x2), some (.int x3), none] [.int x2, .int x1, .ref 208] (mk c (uI S6 207 (x1).toNatClampNeg x2)) from ?_))))
          refine J.zge (tgt := 59) d_M_sheet_52 rfl (fun q12 => ?_) (fun q12 => ?_)
          · have H := ite_t H q12
            refine J.run b_M_sheet_59_4 k_M_sheet_59_4 rfl (And.intro (okB_st (S := (uI S6 207 (x1).toNatClampNeg x2)) (n := 4) rfl g11) (show J w (d + 3) m_M_sheet (n0, z0, some (.int z.1), mk c z.2) 64 [some (.ref 191), some (.int x1), some (.int x2), some (.int x3), some (.int (0 : Int32))] [] (mk c (uI (uI S6 207 (x1).toNatClampNeg x2) 208 (x1).toNatClampNeg x3)) from ?_))
            refine J.mask [true, true, false, false, true] ?_
            refine lo_M_sheet_64 w d c x1  1000 (uI (uI S6 207 (x1).toNatClampNeg x2) 208 (x1).toNatClampNeg x3) (0 : Int32) H
          · have H := ite_f H q12
            refine J.run b_M_sheet_55_1 k_M_sheet_55_1 rfl (show J w (d + 3) m_M_sheet (n0, z0, some (.int z.1), mk c z.2) 56 [some (.ref 191), some (.int x1), some (.int x2), some (.int x3), none] [.int (0 : Int32), .int x1, .ref 208] (mk c (uI S6 207 (x1).toNatClampNeg x2)) from ?_)
            refine J.goto (tgt := 60) d_M_sheet_56 rfl ?_
            refine J.run b_M_sheet_60_3 k_M_sheet_60_3 rfl (And.intro (okB_st (S := (uI S6 207 (x1).toNatClampNeg x2)) (n := 4) rfl g11) (show J w (d + 3) m_M_sheet (n0, z0, some (.int z.1), mk c z.2) 64 [some (.ref 191), some (.int x1), some (.int x2), some (.int x3), some (.int (0 : Int32))] [] (mk c (uI (uI S6 207 (x1).toNatClampNeg x2) 208 (x1).toNatClampNeg (0 : Int32))) from ?_))
            refine J.mask [true, true, false, false, true] ?_
            refine lo_M_sheet_64 w d c x1  1000 (uI (uI S6 207 (x1).toNatClampNeg x2) 208 (x1).toNatClampNeg (0 : Int32)) (0 : Int32) H
        · have H := ite_f H q10
          refine J.run b_M_sheet_32_1 k_M_sheet_32_1 rfl (show J w (d + 3) m_M_sheet (n0, z0, some (.int z.1), mk c z.2) 33 [some (.ref 191), some (.int x1), some (.int x2), some (.int x3), none] [.int x3] (mk c S6) from ?_)
          refine J.zge (tgt := 39) d_M_sheet_33 rfl (fun q15 => ?_) (fun q15 => ?_)
          · have H := ite_t H q15
            obtain ⟨g16, H⟩ := ck_e H
            refine J.run b_M_sheet_39_9 k_M_sheet_39_9 rfl (And.intro (okO_st (S := S6) rfl) (And.intro (okB_st (S := S6) (n := 4) rfl g16) (And.intro (okO_st (S := (uI S6 207 (x1).toNatClampNeg x2)) rfl) (show J w (d + 3) m_M_sheet (n0, z0, some (.int z.1), mk c z.2) 52 [some (.ref 191), some (.int x1), some (.int x2), some (.int x3), none] [.int x2, .int x1, .ref 208] (mk c (uI S6 207 (x1).toNatClampNeg x2)) from ?_))))
            refine J.zge (tgt := 59) d_M_sheet_52 rfl (fun q17 => ?_) (fun q17 => ?_)
            · have H := ite_t H q17
              refine J.run b_M_sheet_59_4 k_M_sheet_59_4 rfl (And.intro (okB_st (S := (uI S6 207 (x1).toNatClampNeg x2)) (n := 4) rfl g16) (show J w (d + 3) m_M_sheet (n0, z0, some (.int z.1), mk c z.2) 64 [some (.ref 191), some (.int x1), some (.int x2), some (.int x3), some (.int (0 : Int32))] [] (mk c (uI (uI S6 207 (x1).toNatClampNeg x2) 208 (x1).toNatClampNeg x3)) from ?_))
              refine J.mask [true, true, false, false, true] ?_
              refine lo_M_sheet_64 w d c x1  1000 (uI (uI S6 207 (x1).toNatClampNeg x2) 208 (x1).toNatClampNeg x3) (0 : Int32) H
            · have H := ite_f H q17
              refine J.run b_M_sheet_55_1 k_M_sheet_55_1 rfl (show J w (d + 3) m_M_sheet (n0, z0, some (.int z.1), mk c z.2) 56 [some (.ref 191), some (.int x1), some (.int x2), some (.int x3), none] [.int (0 : Int32), .int x1, .ref 208] (mk c (uI S6 207 (x1).toNatClampNeg x2)) from ?_)
              refine J.goto (tgt := 60) d_M_sheet_56 rfl ?_
              refine J.run b_M_sheet_60_3 k_M_sheet_60_3 rfl (And.intro (okB_st (S := (uI S6 207 (x1).toNatClampNeg x2)) (n := 4) rfl g16) (show J w (d + 3) m_M_sheet (n0, z0, some (.int z.1), mk c z.2) 64 [some (.ref 191), some (.int x1), some (.int x2), some (.int x3), some (.int (0 : Int32))] [] (mk c (uI (uI S6 207 (x1).toNatClampNeg x2) 208 (x1).toNatClampNeg (0 : Int32))) from ?_))
              refine J.mask [true, true, false, false, true] ?_
              refine lo_M_sheet_64 w d c x1  1000 (uI (uI S6 207 (x1).toNatClampNeg x2) 208 (x1).toNatClampNeg (0 : Int32)) (0 : Int32) H
          · have H := ite_f H q15
            refine J.run b_M_sheet_36_1 k_M_sheet_36_1 rfl (show J w (d + 3) m_M_sheet (n0, z0, some (.int z.1), mk c z.2) 38 [some (.ref 191), some (.int x1), some (.int x2), some (.int x3), none] [.int (-14 : Int32)] (mk c S6) from ?_)
            obtain rfl := some_e H
            exact J.iret d_M_sheet_38 rfl rfl
      · have H := ite_f H q9
        refine J.run b_M_sheet_20_2 k_M_sheet_20_2 rfl (show J w (d + 3) m_M_sheet (n0, z0, some (.int z.1), mk c z.2) 23 [some (.ref 191), some (.int x1), some (.int x2), some (.int x3), none] [.int (40 : Int32), .int x3] (mk c S6) from ?_)
        refine J.cle (tgt := 28) d_M_sheet_23 rfl (fun q18 => ?_) (fun q18 => ?_)
        · have H := ite_t H q18
          refine J.run b_M_sheet_28_1 k_M_sheet_28_1 rfl (show J w (d + 3) m_M_sheet (n0, z0, some (.int z.1), mk c z.2) 29 [some (.ref 191), some (.int x1), some (.int x2), some (.int x3), none] [.int x2] (mk c S6) from ?_)
          refine J.zlt (tgt := 39) d_M_sheet_29 rfl (fun q19 => ?_) (fun q19 => ?_)
          · have H := ite_t H q19
            obtain ⟨g20, H⟩ := ck_e H
            refine J.run b_M_sheet_39_9 k_M_sheet_39_9 rfl (And.intro (okO_st (S := S6) rfl) (And.intro (okB_st (S := S6) (n := 4) rfl g20) (And.intro (okO_st (S := (uI S6 207 (x1).toNatClampNeg x2)) rfl) (show J w (d + 3) m_M_sheet (n0, z0, some (.int z.1), mk c z.2) 52 [some (.ref 191), some (.int x1), some (.int x2), some (.int x3), none] [.int x2, .int x1, .ref 208] (mk c (uI S6 207 (x1).toNatClampNeg x2)) from ?_))))
            refine J.zge (tgt := 59) d_M_sheet_52 rfl (fun q21 => ?_) (fun q21 => ?_)
            · have H := ite_t H q21
              refine J.run b_M_sheet_59_4 k_M_sheet_59_4 rfl (And.intro (okB_st (S := (uI S6 207 (x1).toNatClampNeg x2)) (n := 4) rfl g20) (show J w (d + 3) m_M_sheet (n0, z0, some (.int z.1), mk c z.2) 64 [some (.ref 191), some (.int x1), some (.int x2), some (.int x3), some (.int (0 : Int32))] [] (mk c (uI (uI S6 207 (x1).toNatClampNeg x2) 208 (x1).toNatClampNeg x3)) from ?_))
              refine J.mask [true, true, false, false, true] ?_
              refine lo_M_sheet_64 w d c x1  1000 (uI (uI S6 207 (x1).toNatClampNeg x2) 208 (x1).toNatClampNeg x3) (0 : Int32) H
            · have H := ite_f H q21
              refine J.run b_M_sheet_55_1 k_M_sheet_55_1 rfl (show J w (d + 3) m_M_sheet (n0, z0, some (.int z.1), mk c z.2) 56 [some (.ref 191), some (.int x1), some (.int x2), some (.int x3), none] [.int (0 : Int32), .int x1, .ref 208] (mk c (uI S6 207 (x1).toNatClampNeg x2)) from ?_)
              refine J.goto (tgt := 60) d_M_sheet_56 rfl ?_
              refine J.run b_M_sheet_60_3 k_M_sheet_60_3 rfl (And.intro (okB_st (S := (uI S6 207 (x1).toNatClampNeg x2)) (n := 4) rfl g20) (show J w (d + 3) m_M_sheet (n0, z0, some (.int z.1), mk c z.2) 64 [some (.ref 191), some (.int x1), some (.int x2), some (.int x3), some (.int (0 : Int32))] [] (mk c (uI (uI S6 207 (x1).toNatClampNeg x2) 208 (x1).toNatClampNeg (0 : Int32))) from ?_))
              refine J.mask [true, true, false, false, true] ?_
              refine lo_M_sheet_64 w d c x1  1000 (uI (uI S6 207 (x1).toNatClampNeg x2) 208 (x1).toNatClampNeg (0 : Int32)) (0 : Int32) H
          · have H := ite_f H q19
            refine J.run b_M_sheet_32_1 k_M_sheet_32_1 rfl (show J w (d + 3) m_M_sheet (n0, z0, some (.int z.1), mk c z.2) 33 [some (.ref 191), some (.int x1), some (.int x2), some (.int x3), none] [.int x3] (mk c S6) from ?_)
            refine J.zge (tgt := 39) d_M_sheet_33 rfl (fun q22 => ?_) (fun q22 => ?_)
            · have H := ite_t H q22
              obtain ⟨g23, H⟩ := ck_e H
              refine J.run b_M_sheet_39_9 k_M_sheet_39_9 rfl (And.intro (okO_st (S := S6) rfl) (And.intro (okB_st (S := S6) (n := 4) rfl g23) (And.intro (okO_st (S := (uI S6 207 (x1).toNatClampNeg x2)) rfl) (show J w (d + 3) m_M_sheet (n0, z0, some (.int z.1), mk c z.2) 52 [some (.ref 191), some (.int x1), some (.int x2), some (.int x3), none] [.int x2, .int x1, .ref 208] (mk c (uI S6 207 (x1).toNatClampNeg x2)) from ?_))))
              refine J.zge (tgt := 59) d_M_sheet_52 rfl (fun q24 => ?_) (fun q24 => ?_)
              · have H := ite_t H q24
                refine J.run b_M_sheet_59_4 k_M_sheet_59_4 rfl (And.intro (okB_st (S := (uI S6 207 (x1).toNatClampNeg x2)) (n := 4) rfl g23) (show J w (d + 3) m_M_sheet (n0, z0, some (.int z.1), mk c z.2) 64 [some (.ref 191), some (.int x1), some (.int x2), some (.int x3), some (.int (0 : Int32))] [] (mk c (uI (uI S6 207 (x1).toNatClampNeg x2) 208 (x1).toNatClampNeg x3)) from ?_))
                refine J.mask [true, true, false, false, true] ?_
                refine lo_M_sheet_64 w d c x1  1000 (uI (uI S6 207 (x1).toNatClampNeg x2) 208 (x1).toNatClampNeg x3) (0 : Int32) H
              · have H := ite_f H q24
                refine J.run b_M_sheet_55_1 k_M_sheet_55_1 rfl (show J w (d + 3) m_M_sheet (n0, z0, some (.int z.1), mk c z.2) 56 [some (.ref 191), some (.int x1), some (.int x2), some (.int x3), none] [.int (0 : Int32), .int x1, .ref 208] (mk c (uI S6 207 (x1).toNatClampNeg x2)) from ?_)
                refine J.goto (tgt := 60) d_M_sheet_56 rfl ?_
                refine J.run b_M_sheet_60_3 k_M_sheet_60_3 rfl (And.intro (okB_st (S := (uI S6 207 (x1).toNatClampNeg x2)) (n := 4) rfl g23) (show J w (d + 3) m_M_sheet (n0, z0, some (.int z.1), mk c z.2) 64 [some (.ref 191), some (.int x1), some (.int x2), some (.int x3), some (.int (0 : Int32))] [] (mk c (uI (uI S6 207 (x1).toNatClampNeg x2) 208 (x1).toNatClampNeg (0 : Int32))) from ?_))
                refine J.mask [true, true, false, false, true] ?_
                refine lo_M_sheet_64 w d c x1  1000 (uI (uI S6 207 (x1).toNatClampNeg x2) 208 (x1).toNatClampNeg (0 : Int32)) (0 : Int32) H
            · have H := ite_f H q22
              refine J.run b_M_sheet_36_1 k_M_sheet_36_1 rfl (show J w (d + 3) m_M_sheet (n0, z0, some (.int z.1), mk c z.2) 38 [some (.ref 191), some (.int x1), some (.int x2), some (.int x3), none] [.int (-14 : Int32)] (mk c S6) from ?_)
              obtain rfl := some_e H
              exact J.iret d_M_sheet_38 rfl rfl
        · have H := ite_f H q18
          refine J.run b_M_sheet_26_1 k_M_sheet_26_1 rfl (show J w (d + 3) m_M_sheet (n0, z0, some (.int z.1), mk c z.2) 27 [some (.ref 191), some (.int x1), some (.int x2), some (.int x3), none] [.int (-1 : Int32)] (mk c S6) from ?_)
          obtain rfl := some_e H
          exact J.iret d_M_sheet_27 rfl rfl
def b_M_narrowed_0_1 : List Ins := [(.iload_n 0, 0, 0, 0)]
theorem k_M_narrowed_0_1 : bok m_M_narrowed 0 b_M_narrowed_0_1 = true := by decide +kernel
def b_M_narrowed_9_2 : List Ins := [(.iload_n 0, 0, 0, 0), (.iconst (1), 0, 0, 0)]
theorem k_M_narrowed_9_2 : bok m_M_narrowed 9 b_M_narrowed_9_2 = true := by decide +kernel
def b_M_narrowed_19_2 : List Ins := [(.iload_n 0, 0, 0, 0), (.iconst (4), 0, 0, 0)]
theorem k_M_narrowed_19_2 : bok m_M_narrowed 19 b_M_narrowed_19_2 = true := by decide +kernel
def b_M_narrowed_36_1 : List Ins := [(.iload_n 1, 0, 0, 0)]
theorem k_M_narrowed_36_1 : bok m_M_narrowed 36 b_M_narrowed_36_1 = true := by decide +kernel
def b_M_narrowed_24_1 : List Ins := [(.iload_n 1, 0, 0, 0)]
theorem k_M_narrowed_24_1 : bok m_M_narrowed 24 b_M_narrowed_24_1 = true := by decide +kernel
def b_M_narrowed_32_1 : List Ins := [(.iconst (1), 0, 0, 0)]
theorem k_M_narrowed_32_1 : bok m_M_narrowed 32 b_M_narrowed_32_1 = true := by decide +kernel
def b_M_narrowed_28_1 : List Ins := [(.iconst (0), 0, 0, 0)]
theorem k_M_narrowed_28_1 : bok m_M_narrowed 28 b_M_narrowed_28_1 = true := by decide +kernel
def b_M_narrowed_14_2 : List Ins := [(.iload_n 1, 0, 0, 0), (.i2s, 0, 0, 0)]
theorem k_M_narrowed_14_2 : bok m_M_narrowed 14 b_M_narrowed_14_2 = true := by decide +kernel
def b_M_narrowed_4_2 : List Ins := [(.iload_n 1, 0, 0, 0), (.i2b, 0, 0, 0)]
theorem k_M_narrowed_4_2 : bok m_M_narrowed 4 b_M_narrowed_4_2 = true := by decide +kernel
theorem d_M_narrowed_1 : decode m_M_narrowed.2.1 1 = .ok (.ifCond .ne (8), 3) := by decide +kernel
theorem d_M_narrowed_11 : decode m_M_narrowed.2.1 11 = .ok (.if_icmp .ne (8), 3) := by decide +kernel
theorem d_M_narrowed_21 : decode m_M_narrowed.2.1 21 = .ok (.if_icmp .ne (15), 3) := by decide +kernel
theorem d_M_narrowed_37 : decode m_M_narrowed.2.1 37 = .ok (.ireturn, 1) := by decide +kernel
theorem d_M_narrowed_25 : decode m_M_narrowed.2.1 25 = .ok (.ifCond .ne (7), 3) := by decide +kernel
theorem d_M_narrowed_33 : decode m_M_narrowed.2.1 33 = .ok (.goto (4), 3) := by decide +kernel
theorem d_M_narrowed_29 : decode m_M_narrowed.2.1 29 = .ok (.goto (8), 3) := by decide +kernel
theorem d_M_narrowed_16 : decode m_M_narrowed.2.1 16 = .ok (.goto (21), 3) := by decide +kernel
theorem d_M_narrowed_6 : decode m_M_narrowed.2.1 6 = .ok (.goto (31), 3) := by decide +kernel
def f_M_narrowed  (S : hs) (x0 : Int32) (x1 : Int32) : Option (Int32 × hs) := (if x0 = 0 then some ((x1.toInt8.toInt32), S) else (if x0 = (1 : Int32) then some ((x1.toInt16.toInt32), S) else (if x0 = (4 : Int32) then (if x1 = 0 then some ((0 : Int32), S) else some ((1 : Int32), S)) else some (x1, S))))
theorem c_M_narrowed (w : Wd) (d : Nat) (c : cx)   (S : hs) (x0 : Int32) (x1 : Int32)  {z : Int32 × hs} (H : f_M_narrowed S x0 x1 = some z) : Cl w (d + 1) m_M_narrowed [.int x0, .int x1] (mk c S) (some (.int z.1)) (mk c z.2) := by
  refine Cl.of (Nat.le_refl _) (Nat.le_refl _) (by decide +kernel) (Nat.le_of_ble_eq_true rfl) ?_
  unfold f_M_narrowed at H
  generalize hN (mk c S) = n0
  generalize hZ (mk c S) = z0
  show J w (d + 1) m_M_narrowed (n0, z0, some (.int z.1), mk c z.2) 0 [some (.int x0), some (.int x1)] [] (mk c S)
  refine J.run b_M_narrowed_0_1 k_M_narrowed_0_1 rfl (show J w (d + 1) m_M_narrowed (n0, z0, some (.int z.1), mk c z.2) 1 [some (.int x0), some (.int x1)] [.int x0] (mk c S) from ?_)
  refine J.zne (tgt := 9) d_M_narrowed_1 rfl (fun q1 => ?_) (fun q1 => ?_)
  · have H := ite_f H q1
    refine J.run b_M_narrowed_9_2 k_M_narrowed_9_2 rfl (show J w (d + 1) m_M_narrowed (n0, z0, some (.int z.1), mk c z.2) 11 [some (.int x0), some (.int x1)] [.int (1 : Int32), .int x0] (mk c S) from ?_)
    refine J.cne (tgt := 19) d_M_narrowed_11 rfl (fun q2 => ?_) (fun q2 => ?_)
    · have H := ite_f H q2
      refine J.run b_M_narrowed_19_2 k_M_narrowed_19_2 rfl (show J w (d + 1) m_M_narrowed (n0, z0, some (.int z.1), mk c z.2) 21 [some (.int x0), some (.int x1)] [.int (4 : Int32), .int x0] (mk c S) from ?_)
      refine J.cne (tgt := 36) d_M_narrowed_21 rfl (fun q3 => ?_) (fun q3 => ?_)
      · have H := ite_f H q3
        refine J.run b_M_narrowed_36_1 k_M_narrowed_36_1 rfl (show J w (d + 1) m_M_narrowed (n0, z0, some (.int z.1), mk c z.2) 37 [some (.int x0), some (.int x1)] [.int x1] (mk c S) from ?_)
        obtain rfl := some_e H
        exact J.iret d_M_narrowed_37 rfl rfl
      · have H := ite_t H q3
        refine J.run b_M_narrowed_24_1 k_M_narrowed_24_1 rfl (show J w (d + 1) m_M_narrowed (n0, z0, some (.int z.1), mk c z.2) 25 [some (.int x0), some (.int x1)] [.int x1] (mk c S) from ?_)
        refine J.zne (tgt := 32) d_M_narrowed_25 rfl (fun q4 => ?_) (fun q4 => ?_)
        · have H := ite_f H q4
          refine J.run b_M_narrowed_32_1 k_M_narrowed_32_1 rfl (show J w (d + 1) m_M_narrowed (n0, z0, some (.int z.1), mk c z.2) 33 [some (.int x0), some (.int x1)] [.int (1 : Int32)] (mk c S) from ?_)
          refine J.goto (tgt := 37) d_M_narrowed_33 rfl ?_
          obtain rfl := some_e H
          exact J.iret d_M_narrowed_37 rfl rfl
        · have H := ite_t H q4
          refine J.run b_M_narrowed_28_1 k_M_narrowed_28_1 rfl (show J w (d + 1) m_M_narrowed (n0, z0, some (.int z.1), mk c z.2) 29 [some (.int x0), some (.int x1)] [.int (0 : Int32)] (mk c S) from ?_)
          refine J.goto (tgt := 37) d_M_narrowed_29 rfl ?_
          obtain rfl := some_e H
          exact J.iret d_M_narrowed_37 rfl rfl
    · have H := ite_t H q2
      refine J.run b_M_narrowed_14_2 k_M_narrowed_14_2 rfl (show J w (d + 1) m_M_narrowed (n0, z0, some (.int z.1), mk c z.2) 16 [some (.int x0), some (.int x1)] [.int (x1.toInt16.toInt32)] (mk c S) from ?_)
      refine J.goto (tgt := 37) d_M_narrowed_16 rfl ?_
      obtain rfl := some_e H
      exact J.iret d_M_narrowed_37 rfl rfl
  · have H := ite_t H q1
    refine J.run b_M_narrowed_4_2 k_M_narrowed_4_2 rfl (show J w (d + 1) m_M_narrowed (n0, z0, some (.int z.1), mk c z.2) 6 [some (.int x0), some (.int x1)] [.int (x1.toInt8.toInt32)] (mk c S) from ?_)
    refine J.goto (tgt := 37) d_M_narrowed_6 rfl ?_
    obtain rfl := some_e H
    exact J.iret d_M_narrowed_37 rfl rfl
def b_M_write_0_1 : List Ins := [(.iload_n 1, 0, 0, 0)]
theorem k_M_write_0_1 : bok m_M_write 0 b_M_write_0_1 = true := by decide +kernel
def b_M_write_9_4 : List Ins := [(.aload_n 0, 0, 0, 0), (.getfield 87, 11, 25, 2), (.iload_n 1, 0, 0, 0), (.iaload, 0, 0, 0)]
theorem k_M_write_9_4 : bok m_M_write 9 b_M_write_9_4 = true := by decide +kernel
def b_M_write_21_8 : List Ins := [(.iload_n 2, 0, 0, 0), (.iconst (0), 0, 0, 0), (.aload_n 0, 0, 0, 0), (.getfield 90, 11, 26, 2), (.iload_n 1, 0, 0, 0), (.iaload, 0, 0, 0), (.iconst (1), 0, 0, 0), (.isub, 0, 0, 0)]
theorem k_M_write_21_8 : bok m_M_write 21 b_M_write_21_8 = true := by decide +kernel
def b_M_write_40_12 : List Ins := [(.aload_n 0, 0, 0, 0), (.getfield 84, 11, 24, 2), (.bipush (40), 0, 0, 0), (.iload_n 1, 0, 0, 0), (.imul, 0, 0, 0), (.iload_n 2, 0, 0, 0), (.iadd, 0, 0, 0), (.aload_n 0, 0, 0, 0), (.getfield 87, 11, 25, 2), (.iload_n 1, 0, 0, 0), (.iaload, 0, 0, 0), (.iload_n 3, 0, 0, 0)]
theorem k_M_write_40_12 : bok m_M_write 40 b_M_write_40_12 = true := by decide +kernel
def b_M_write_60_2 : List Ins := [(.iastore, 0, 0, 0), (.iconst (1), 0, 0, 0)]
theorem k_M_write_60_2 : bok m_M_write 60 b_M_write_60_2 = true := by decide +kernel
def b_M_write_37_1 : List Ins := [(.bipush (-12), 0, 0, 0)]
theorem k_M_write_37_1 : bok m_M_write 37 b_M_write_37_1 = true := by decide +kernel
def b_M_write_18_1 : List Ins := [(.bipush (-11), 0, 0, 0)]
theorem k_M_write_18_1 : bok m_M_write 18 b_M_write_18_1 = true := by decide +kernel
def b_M_write_7_1 : List Ins := [(.iconst (-1), 0, 0, 0)]
theorem k_M_write_7_1 : bok m_M_write 7 b_M_write_7_1 = true := by decide +kernel
theorem d_M_write_1 : decode m_M_write.2.1 1 = .ok (.invokestatic 321, 3) := by decide +kernel
theorem d_M_write_4 : decode m_M_write.2.1 4 = .ok (.ifCond .ne (5), 3) := by decide +kernel
theorem d_M_write_15 : decode m_M_write.2.1 15 = .ok (.ifCond .ge (6), 3) := by decide +kernel
theorem d_M_write_31 : decode m_M_write.2.1 31 = .ok (.invokestatic 105, 3) := by decide +kernel
theorem d_M_write_34 : decode m_M_write.2.1 34 = .ok (.ifCond .ne (6), 3) := by decide +kernel
theorem d_M_write_57 : decode m_M_write.2.1 57 = .ok (.invokestatic 324, 3) := by decide +kernel
theorem d_M_write_62 : decode m_M_write.2.1 62 = .ok (.ireturn, 1) := by decide +kernel
theorem d_M_write_39 : decode m_M_write.2.1 39 = .ok (.ireturn, 1) := by decide +kernel
theorem d_M_write_20 : decode m_M_write.2.1 20 = .ok (.ireturn, 1) := by decide +kernel
theorem d_M_write_8 : decode m_M_write.2.1 8 = .ok (.ireturn, 1) := by decide +kernel
def f_M_write  (S : hs) (x1 : Int32) (x2 : Int32) (x3 : Int32) : Option (Int32 × hs) := bd (f_M_isSheet  S x1) fun r1 S2 => (if r1 = 0 then some ((-1 : Int32), S2) else ck (inb x1 4) ((if 0 ≤ (gI S2 207 (x1).toNatClampNeg) then bd (f_M_in  S2 x2 (0 : Int32) ((gI S2 208 (x1).toNatClampNeg) - (1 : Int32))) fun r7 S8 => (if r7 = 0 then some ((-12 : Int32), S8) else bd (f_M_narrowed  S8 (gI S8 207 (x1).toNatClampNeg) x3) fun r11 S12 => ck (inb (((40 : Int32) * x1) + x2) 160) (some ((1 : Int32), (uI S12 206 ((((40 : Int32) * x1) + x2)).toNatClampNeg r11)))) else some ((-11 : Int32), S2))))
theorem c_M_write (w : Wd) (d : Nat) (c : cx)   (S : hs) (x1 : Int32) (x2 : Int32) (x3 : Int32)  {z : Int32 × hs} (H : f_M_write S x1 x2 x3 = some z) : Cl w (d + 3) m_M_write [.ref 191, .int x1, .int x2, .int x3] (mk c S) (some (.int z.1)) (mk c z.2) := by
  refine Cl.of (Nat.le_refl _) (Nat.le_refl _) (by decide +kernel) (Nat.le_of_ble_eq_true rfl) ?_
  unfold f_M_write at H
  generalize hN (mk c S) = n0
  generalize hZ (mk c S) = z0
  show J w (d + 3) m_M_write (n0, z0, some (.int z.1), mk c z.2) 0 [some (.ref 191), some (.int x1), some (.int x2), some (.int x3)] [] (mk c S)
  refine J.run b_M_write_0_1 k_M_write_0_1 rfl (show J w (d + 3) m_M_write (n0, z0, some (.int z.1), mk c z.2) 1 [some (.ref 191), some (.int x1), some (.int x2), some (.int x3)] [.int x1] (mk c S) from ?_)
  obtain ⟨r1, S2, h3, H⟩ := bd_e H
  refine J.callS (y := m_M_isSheet) (av := [.int x1]) (rest := []) l_M_321 d_M_write_1 (c_M_isSheet w (d + 0) c  S x1 h3) rfl (Nat.le_of_ble_eq_true rfl) ⟨Nat.le_refl _, Nat.le_refl _⟩ (show J w (d + 3) m_M_write (n0, z0, some (.int z.1), mk c z.2) 4 [some (.ref 191), some (.int x1), some (.int x2), some (.int x3)] [.int r1] (mk c S2) from ?_)
  refine J.zne (tgt := 9) d_M_write_4 rfl (fun q4 => ?_) (fun q4 => ?_)
  · have H := ite_f H q4
    obtain ⟨g5, H⟩ := ck_e H
    refine J.run b_M_write_9_4 k_M_write_9_4 rfl (And.intro (okO_st (S := S2) rfl) (And.intro (okA_st (S := S2) (n := 4) rfl g5) (show J w (d + 3) m_M_write (n0, z0, some (.int z.1), mk c z.2) 15 [some (.ref 191), some (.int x1), some (.int x2), some (.int x3)] [.int (gI S2 207 (x1).toNatClampNeg)] (mk c S2) from ?_)))
    refine J.zge (tgt := 21) d_M_write_15 rfl (fun q6 => ?_) (fun q6 => ?_)
    · have H := ite_t H q6
      refine J.run b_M_write_21_8 k_M_write_21_8 rfl (And.intro (okO_st (S := S2) rfl) (And.intro (okA_st (S := S2) (n := 4) rfl g5) (show J w (d + 3) m_M_write (n0, z0, some (.int z.1), mk c z.2) 31 [some (.ref 191), some (.int x1), some (.int x2), some (.int x3)] [.int ((gI S2 208 (x1).toNatClampNeg) - (1 : Int32)), .int (0 : Int32), .int x2] (mk c S2) from ?_)))
      obtain ⟨r7, S8, h9, H⟩ := bd_e H
      refine J.callS (y := m_M_in) (av := [.int x2, .int (0 : Int32), .int ((gI S2 208 (x1).toNatClampNeg) - (1 : Int32))]) (rest := []) l_M_105 d_M_write_31 (c_M_in w (d + 1) c  S2 x2 (0 : Int32) ((gI S2 208 (x1).toNatClampNeg) - (1 : Int32)) h9) rfl (Nat.le_of_ble_eq_true rfl) ⟨Nat.le_refl _, Nat.le_refl _⟩ (show J w (d + 3) m_M_write (n0, z0, some (.int z.1), mk c z.2) 34 [some (.ref 191), some (.int x1), some (.int x2), some (.int x3)] [.int r7] (mk c S8) from ?_)
      refine J.zne (tgt := 40) d_M_write_34 rfl (fun q10 => ?_) (fun q10 => ?_)
      · have H := ite_f H q10
        refine J.run b_M_write_40_12 k_M_write_40_12 rfl (And.intro (okO_st (S := S8) rfl) (And.intro (okO_st (S := S8) rfl) (And.intro (okA_st (S := S8) (n := 4) rfl g5) (show J w (d + 3) m_M_write (n0, z0, some (.int z.1), mk c z.2) 57 [some (.ref 191), some (.int x1), some (.int x2), some (.int x3)] [.int x3, .int (gI S8 207 (x1).toNatClampNeg), .int (((40 : Int32) * x1) + x2), .ref 206] (mk c S8) from ?_))))
        obtain ⟨r11, S12, h13, H⟩ := bd_e H
        refine J.callS (y := m_M_narrowed) (av := [.int (gI S8 207 (x1).toNatClampNeg), .int x3]) (rest := [.int (((40 : Int32) * x1) + x2), .ref 206]) l_M_324 d_M_write_57 (c_M_narrowed w (d + 1) c  S8 (gI S8 207 (x1).toNatClampNeg) x3 h13) rfl (Nat.le_of_ble_eq_true rfl) ⟨Nat.le_refl _, Nat.le_refl _⟩ (show J w (d + 3) m_M_write (n0, z0, some (.int z.1), mk c z.2) 60 [some (.ref 191), some (.int x1), some (.int x2), some (.int x3)] [.int r11, .int (((40 : Int32) * x1) + x2), .ref 206] (mk c S12) from ?_)
        obtain ⟨g14, H⟩ := ck_e H
        refine J.run b_M_write_60_2 k_M_write_60_2 rfl (And.intro (okB_st (S := S12) (n := 160) rfl g14) (show J w (d + 3) m_M_write (n0, z0, some (.int z.1), mk c z.2) 62 [some (.ref 191), some (.int x1), some (.int x2), some (.int x3)] [.int (1 : Int32)] (mk c (uI S12 206 ((((40 : Int32) * x1) + x2)).toNatClampNeg r11)) from ?_))
        obtain rfl := some_e H
        exact J.iret d_M_write_62 rfl rfl
      · have H := ite_t H q10
        refine J.run b_M_write_37_1 k_M_write_37_1 rfl (show J w (d + 3) m_M_write (n0, z0, some (.int z.1), mk c z.2) 39 [some (.ref 191), some (.int x1), some (.int x2), some (.int x3)] [.int (-12 : Int32)] (mk c S8) from ?_)
        obtain rfl := some_e H
        exact J.iret d_M_write_39 rfl rfl
    · have H := ite_f H q6
      refine J.run b_M_write_18_1 k_M_write_18_1 rfl (show J w (d + 3) m_M_write (n0, z0, some (.int z.1), mk c z.2) 20 [some (.ref 191), some (.int x1), some (.int x2), some (.int x3)] [.int (-11 : Int32)] (mk c S2) from ?_)
      obtain rfl := some_e H
      exact J.iret d_M_write_20 rfl rfl
  · have H := ite_t H q4
    refine J.run b_M_write_7_1 k_M_write_7_1 rfl (show J w (d + 3) m_M_write (n0, z0, some (.int z.1), mk c z.2) 8 [some (.ref 191), some (.int x1), some (.int x2), some (.int x3)] [.int (-1 : Int32)] (mk c S2) from ?_)
    obtain rfl := some_e H
    exact J.iret d_M_write_8 rfl rfl
def b_M_item_0_1 : List Ins := [(.iload_n 1, 0, 0, 0)]
theorem k_M_item_0_1 : bok m_M_item 0 b_M_item_0_1 = true := by decide +kernel
def b_M_item_16_1 : List Ins := [(.iconst (-1), 0, 0, 0)]
theorem k_M_item_16_1 : bok m_M_item 16 b_M_item_16_1 = true := by decide +kernel
def b_M_item_7_3 : List Ins := [(.iload_n 2, 0, 0, 0), (.iconst (0), 0, 0, 0), (.iconst (4), 0, 0, 0)]
theorem k_M_item_7_3 : bok m_M_item 7 b_M_item_7_3 = true := by decide +kernel
def b_M_item_18_4 : List Ins := [(.aload_n 0, 0, 0, 0), (.getfield 87, 11, 25, 2), (.iload_n 1, 0, 0, 0), (.iaload, 0, 0, 0)]
theorem k_M_item_18_4 : bok m_M_item 18 b_M_item_18_4 = true := by decide +kernel
def b_M_item_30_5 : List Ins := [(.aload_n 0, 0, 0, 0), (.getfield 87, 11, 25, 2), (.iload_n 1, 0, 0, 0), (.iaload, 0, 0, 0), (.iload_n 2, 0, 0, 0)]
theorem k_M_item_30_5 : bok m_M_item 30 b_M_item_30_5 = true := by decide +kernel
def b_M_item_43_8 : List Ins := [(.iload_n 3, 0, 0, 0), (.iconst (0), 0, 0, 0), (.aload_n 0, 0, 0, 0), (.getfield 90, 11, 26, 2), (.iload_n 1, 0, 0, 0), (.iaload, 0, 0, 0), (.iconst (1), 0, 0, 0), (.isub, 0, 0, 0)]
theorem k_M_item_43_8 : bok m_M_item 43 b_M_item_43_8 = true := by decide +kernel
def b_M_item_73_1 : List Ins := [(.bipush (-12), 0, 0, 0)]
theorem k_M_item_73_1 : bok m_M_item 73 b_M_item_73_1 = true := by decide +kernel
def b_M_item_59_8 : List Ins := [(.aload_n 0, 0, 0, 0), (.getfield 84, 11, 24, 2), (.bipush (40), 0, 0, 0), (.iload_n 1, 0, 0, 0), (.imul, 0, 0, 0), (.iload_n 3, 0, 0, 0), (.iadd, 0, 0, 0), (.iaload, 0, 0, 0)]
theorem k_M_item_59_8 : bok m_M_item 59 b_M_item_59_8 = true := by decide +kernel
def b_M_item_40_1 : List Ins := [(.bipush (-13), 0, 0, 0)]
theorem k_M_item_40_1 : bok m_M_item 40 b_M_item_40_1 = true := by decide +kernel
def b_M_item_27_1 : List Ins := [(.bipush (-11), 0, 0, 0)]
theorem k_M_item_27_1 : bok m_M_item 27 b_M_item_27_1 = true := by decide +kernel
theorem d_M_item_1 : decode m_M_item.2.1 1 = .ok (.invokestatic 321, 3) := by decide +kernel
theorem d_M_item_4 : decode m_M_item.2.1 4 = .ok (.ifCond .eq (12), 3) := by decide +kernel
theorem d_M_item_17 : decode m_M_item.2.1 17 = .ok (.ireturn, 1) := by decide +kernel
theorem d_M_item_10 : decode m_M_item.2.1 10 = .ok (.invokestatic 105, 3) := by decide +kernel
theorem d_M_item_13 : decode m_M_item.2.1 13 = .ok (.ifCond .ne (5), 3) := by decide +kernel
theorem d_M_item_24 : decode m_M_item.2.1 24 = .ok (.ifCond .ge (6), 3) := by decide +kernel
theorem d_M_item_37 : decode m_M_item.2.1 37 = .ok (.if_icmp .eq (6), 3) := by decide +kernel
theorem d_M_item_53 : decode m_M_item.2.1 53 = .ok (.invokestatic 105, 3) := by decide +kernel
theorem d_M_item_56 : decode m_M_item.2.1 56 = .ok (.ifCond .eq (17), 3) := by decide +kernel
theorem d_M_item_75 : decode m_M_item.2.1 75 = .ok (.ireturn, 1) := by decide +kernel
theorem d_M_item_70 : decode m_M_item.2.1 70 = .ok (.goto (5), 3) := by decide +kernel
theorem d_M_item_42 : decode m_M_item.2.1 42 = .ok (.ireturn, 1) := by decide +kernel
theorem d_M_item_29 : decode m_M_item.2.1 29 = .ok (.ireturn, 1) := by decide +kernel
def f_M_item  (S : hs) (x1 : Int32) (x2 : Int32) (x3 : Int32) : Option (Int32 × hs) := bd (f_M_isSheet  S x1) fun r1 S2 => (if r1 = 0 then some ((-1 : Int32), S2) else bd (f_M_in  S2 x2 (0 : Int32) (4 : Int32)) fun r5 S6 => (if r5 = 0 then some ((-1 : Int32), S6) else ck (inb x1 4) ((if 0 ≤ (gI S6 207 (x1).toNatClampNeg) then (if (gI S6 207 (x1).toNatClampNeg) = x2 then bd (f_M_in  S6 x3 (0 : Int32) ((gI S6 208 (x1).toNatClampNeg) - (1 : Int32))) fun r12 S13 => (if r12 = 0 then some ((-12 : Int32), S13) else ck (inb (((40 : Int32) * x1) + x3) 160) (some ((gI S13 206 ((((40 : Int32) * x1) + x3)).toNatClampNeg), S13))) else some ((-13 : Int32), S6)) else some ((-11 : Int32), S6)))))
theorem c_M_item (w : Wd) (d : Nat) (c : cx)   (S : hs) (x1 : Int32) (x2 : Int32) (x3 : Int32)  {z : Int32 × hs} (H : f_M_item S x1 x2 x3 = some z) : Cl w (d + 3) m_M_item [.ref 191, .int x1, .int x2, .int x3] (mk c S) (some (.int z.1)) (mk c z.2) := by
  refine Cl.of (Nat.le_refl _) (Nat.le_refl _) (by decide +kernel) (Nat.le_of_ble_eq_true rfl) ?_
  unfold f_M_item at H
  generalize hN (mk c S) = n0
  generalize hZ (mk c S) = z0
  show J w (d + 3) m_M_item (n0, z0, some (.int z.1), mk c z.2) 0 [some (.ref 191), some (.int x1), some (.int x2), some (.int x3)] [] (mk c S)
  refine J.run b_M_item_0_1 k_M_item_0_1 rfl (show J w (d + 3) m_M_item (n0, z0, some (.int z.1), mk c z.2) 1 [some (.ref 191), some (.int x1), some (.int x2), some (.int x3)] [.int x1] (mk c S) from ?_)
  obtain ⟨r1, S2, h3, H⟩ := bd_e H
  refine J.callS (y := m_M_isSheet) (av := [.int x1]) (rest := []) l_M_321 d_M_item_1 (c_M_isSheet w (d + 0) c  S x1 h3) rfl (Nat.le_of_ble_eq_true rfl) ⟨Nat.le_refl _, Nat.le_refl _⟩ (show J w (d + 3) m_M_item (n0, z0, some (.int z.1), mk c z.2) 4 [some (.ref 191), some (.int x1), some (.int x2), some (.int x3)] [.int r1] (mk c S2) from ?_)
  refine J.zeq (tgt := 16) d_M_item_4 rfl (fun q4 => ?_) (fun q4 => ?_)
  · have H := ite_t H q4
    refine J.run b_M_item_16_1 k_M_item_16_1 rfl (show J w (d + 3) m_M_item (n0, z0, some (.int z.1), mk c z.2) 17 [some (.ref 191), some (.int x1), some (.int x2), some (.int x3)] [.int (-1 : Int32)] (mk c S2) from ?_)
    obtain rfl := some_e H
    exact J.iret d_M_item_17 rfl rfl
  · have H := ite_f H q4
    refine J.run b_M_item_7_3 k_M_item_7_3 rfl (show J w (d + 3) m_M_item (n0, z0, some (.int z.1), mk c z.2) 10 [some (.ref 191), some (.int x1), some (.int x2), some (.int x3)] [.int (4 : Int32), .int (0 : Int32), .int x2] (mk c S2) from ?_)
    obtain ⟨r5, S6, h7, H⟩ := bd_e H
    refine J.callS (y := m_M_in) (av := [.int x2, .int (0 : Int32), .int (4 : Int32)]) (rest := []) l_M_105 d_M_item_10 (c_M_in w (d + 1) c  S2 x2 (0 : Int32) (4 : Int32) h7) rfl (Nat.le_of_ble_eq_true rfl) ⟨Nat.le_refl _, Nat.le_refl _⟩ (show J w (d + 3) m_M_item (n0, z0, some (.int z.1), mk c z.2) 13 [some (.ref 191), some (.int x1), some (.int x2), some (.int x3)] [.int r5] (mk c S6) from ?_)
    refine J.zne (tgt := 18) d_M_item_13 rfl (fun q8 => ?_) (fun q8 => ?_)
    · have H := ite_f H q8
      obtain ⟨g9, H⟩ := ck_e H
      refine J.run b_M_item_18_4 k_M_item_18_4 rfl (And.intro (okO_st (S := S6) rfl) (And.intro (okA_st (S := S6) (n := 4) rfl g9) (show J w (d + 3) m_M_item (n0, z0, some (.int z.1), mk c z.2) 24 [some (.ref 191), some (.int x1), some (.int x2), some (.int x3)] [.int (gI S6 207 (x1).toNatClampNeg)] (mk c S6) from ?_)))
      refine J.zge (tgt := 30) d_M_item_24 rfl (fun q10 => ?_) (fun q10 => ?_)
      · have H := ite_t H q10
        refine J.run b_M_item_30_5 k_M_item_30_5 rfl (And.intro (okO_st (S := S6) rfl) (And.intro (okA_st (S := S6) (n := 4) rfl g9) (show J w (d + 3) m_M_item (n0, z0, some (.int z.1), mk c z.2) 37 [some (.ref 191), some (.int x1), some (.int x2), some (.int x3)] [.int x2, .int (gI S6 207 (x1).toNatClampNeg)] (mk c S6) from ?_)))
        refine J.ceq (tgt := 43) d_M_item_37 rfl (fun q11 => ?_) (fun q11 => ?_)
        · have H := ite_t H q11
          refine J.run b_M_item_43_8 k_M_item_43_8 rfl (And.intro (okO_st (S := S6) rfl) (And.intro (okA_st (S := S6) (n := 4) rfl g9) (show J w (d + 3) m_M_item (n0, z0, some (.int z.1), mk c z.2) 53 [some (.ref 191), some (.int x1), some (.int x2), some (.int x3)] [.int ((gI S6 208 (x1).toNatClampNeg) - (1 : Int32)), .int (0 : Int32), .int x3] (mk c S6) from ?_)))
          obtain ⟨r12, S13, h14, H⟩ := bd_e H
          refine J.callS (y := m_M_in) (av := [.int x3, .int (0 : Int32), .int ((gI S6 208 (x1).toNatClampNeg) - (1 : Int32))]) (rest := []) l_M_105 d_M_item_53 (c_M_in w (d + 1) c  S6 x3 (0 : Int32) ((gI S6 208 (x1).toNatClampNeg) - (1 : Int32)) h14) rfl (Nat.le_of_ble_eq_true rfl) ⟨Nat.le_refl _, Nat.le_refl _⟩ (show J w (d + 3) m_M_item (n0, z0, some (.int z.1), mk c z.2) 56 [some (.ref 191), some (.int x1), some (.int x2), some (.int x3)] [.int r12] (mk c S13) from ?_)
          refine J.zeq (tgt := 73) d_M_item_56 rfl (fun q15 => ?_) (fun q15 => ?_)
          · have H := ite_t H q15
            refine J.run b_M_item_73_1 k_M_item_73_1 rfl (show J w (d + 3) m_M_item (n0, z0, some (.int z.1), mk c z.2) 75 [some (.ref 191), some (.int x1), some (.int x2), some (.int x3)] [.int (-12 : Int32)] (mk c S13) from ?_)
            obtain rfl := some_e H
            exact J.iret d_M_item_75 rfl rfl
          · have H := ite_f H q15
            obtain ⟨g16, H⟩ := ck_e H
            refine J.run b_M_item_59_8 k_M_item_59_8 rfl (And.intro (okO_st (S := S13) rfl) (And.intro (okA_st (S := S13) (n := 160) rfl g16) (show J w (d + 3) m_M_item (n0, z0, some (.int z.1), mk c z.2) 70 [some (.ref 191), some (.int x1), some (.int x2), some (.int x3)] [.int (gI S13 206 ((((40 : Int32) * x1) + x3)).toNatClampNeg)] (mk c S13) from ?_)))
            refine J.goto (tgt := 75) d_M_item_70 rfl ?_
            obtain rfl := some_e H
            exact J.iret d_M_item_75 rfl rfl
        · have H := ite_f H q11
          refine J.run b_M_item_40_1 k_M_item_40_1 rfl (show J w (d + 3) m_M_item (n0, z0, some (.int z.1), mk c z.2) 42 [some (.ref 191), some (.int x1), some (.int x2), some (.int x3)] [.int (-13 : Int32)] (mk c S6) from ?_)
          obtain rfl := some_e H
          exact J.iret d_M_item_42 rfl rfl
      · have H := ite_f H q10
        refine J.run b_M_item_27_1 k_M_item_27_1 rfl (show J w (d + 3) m_M_item (n0, z0, some (.int z.1), mk c z.2) 29 [some (.ref 191), some (.int x1), some (.int x2), some (.int x3)] [.int (-11 : Int32)] (mk c S6) from ?_)
        obtain rfl := some_e H
        exact J.iret d_M_item_29 rfl rfl
    · have H := ite_t H q8
      refine J.run b_M_item_16_1 k_M_item_16_1 rfl (show J w (d + 3) m_M_item (n0, z0, some (.int z.1), mk c z.2) 17 [some (.ref 191), some (.int x1), some (.int x2), some (.int x3)] [.int (-1 : Int32)] (mk c S6) from ?_)
      obtain rfl := some_e H
      exact J.iret d_M_item_17 rfl rfl
def b_M_wides_0_1 : List Ins := [(.iload_n 1, 0, 0, 0)]
theorem k_M_wides_0_1 : bok m_M_wides 0 b_M_wides_0_1 = true := by decide +kernel
def b_M_wides_17_1 : List Ins := [(.iconst (-1), 0, 0, 0)]
theorem k_M_wides_17_1 : bok m_M_wides 17 b_M_wides_17_1 = true := by decide +kernel
def b_M_wides_7_3 : List Ins := [(.iload_n 3, 0, 0, 0), (.iconst (0), 0, 0, 0), (.bipush (20), 0, 0, 0)]
theorem k_M_wides_7_3 : bok m_M_wides 7 b_M_wides_7_3 = true := by decide +kernel
def b_M_wides_19_4 : List Ins := [(.aload_n 0, 0, 0, 0), (.getfield 87, 11, 25, 2), (.iload_n 1, 0, 0, 0), (.iaload, 0, 0, 0)]
theorem k_M_wides_19_4 : bok m_M_wides 19 b_M_wides_19_4 = true := by decide +kernel
def b_M_wides_31_4 : List Ins := [(.aload_n 0, 0, 0, 0), (.getfield 87, 11, 25, 2), (.iload_n 1, 0, 0, 0), (.iaload, 0, 0, 0)]
theorem k_M_wides_31_4 : bok m_M_wides 31 b_M_wides_31_4 = true := by decide +kernel
def b_M_wides_43_4 : List Ins := [(.iconst (0), 0, 0, 0), (.istore 4, 0, 0, 0), (.iconst (0), 0, 0, 0), (.istore 5, 0, 0, 0)]
theorem k_M_wides_43_4 : bok m_M_wides 43 b_M_wides_43_4 = true := by decide +kernel
def b_M_wides_49_2 : List Ins := [(.iload 5, 0, 0, 0), (.iload_n 3, 0, 0, 0)]
theorem k_M_wides_49_2 : bok m_M_wides 49 b_M_wides_49_2 = true := by decide +kernel
def b_M_wides_115_1 : List Ins := [(.iload 4, 0, 0, 0)]
theorem k_M_wides_115_1 : bok m_M_wides 115 b_M_wides_115_1 = true := by decide +kernel
def b_M_wides_55_1 : List Ins := [(.iload_n 2, 0, 0, 0)]
theorem k_M_wides_55_1 : bok m_M_wides 55 b_M_wides_55_1 = true := by decide +kernel
def b_M_wides_72_1 : List Ins := [(.bipush (-12), 0, 0, 0)]
theorem k_M_wides_72_1 : bok m_M_wides 72 b_M_wides_72_1 = true := by decide +kernel
def b_M_wides_59_7 : List Ins := [(.iload_n 2, 0, 0, 0), (.aload_n 0, 0, 0, 0), (.getfield 90, 11, 26, 2), (.iload_n 1, 0, 0, 0), (.iaload, 0, 0, 0), (.iload 5, 0, 0, 0), (.isub, 0, 0, 0)]
theorem k_M_wides_59_7 : bok m_M_wides 59 b_M_wides_59_7 = true := by decide +kernel
def b_M_wides_75_13 : List Ins := [(.iload 4, 0, 0, 0), (.aload_n 0, 0, 0, 0), (.iload 5, 0, 0, 0), (.aload_n 0, 0, 0, 0), (.getfield 84, 11, 24, 2), (.bipush (40), 0, 0, 0), (.iload_n 1, 0, 0, 0), (.imul, 0, 0, 0), (.iload_n 2, 0, 0, 0), (.iadd, 0, 0, 0), (.iload 5, 0, 0, 0), (.iadd, 0, 0, 0), (.iaload, 0, 0, 0)]
theorem k_M_wides_75_13 : bok m_M_wides 75 b_M_wides_75_13 = true := by decide +kernel
def b_M_wides_97_1 : List Ins := [(.iconst (-1), 0, 0, 0)]
theorem k_M_wides_97_1 : bok m_M_wides 97 b_M_wides_97_1 = true := by decide +kernel
def b_M_wides_105_4 : List Ins := [(.iconst (1), 0, 0, 0), (.iadd, 0, 0, 0), (.istore 4, 0, 0, 0), (.iinc 5 (1), 0, 0, 0)]
theorem k_M_wides_105_4 : bok m_M_wides 105 b_M_wides_105_4 = true := by decide +kernel
def b_M_wides_101_1 : List Ins := [(.iconst (0), 0, 0, 0)]
theorem k_M_wides_101_1 : bok m_M_wides 101 b_M_wides_101_1 = true := by decide +kernel
def b_M_wides_106_3 : List Ins := [(.iadd, 0, 0, 0), (.istore 4, 0, 0, 0), (.iinc 5 (1), 0, 0, 0)]
theorem k_M_wides_106_3 : bok m_M_wides 106 b_M_wides_106_3 = true := by decide +kernel
def b_M_wides_40_1 : List Ins := [(.bipush (-11), 0, 0, 0)]
theorem k_M_wides_40_1 : bok m_M_wides 40 b_M_wides_40_1 = true := by decide +kernel
def b_M_wides_28_1 : List Ins := [(.bipush (-13), 0, 0, 0)]
theorem k_M_wides_28_1 : bok m_M_wides 28 b_M_wides_28_1 = true := by decide +kernel
theorem d_M_wides_1 : decode m_M_wides.2.1 1 = .ok (.invokestatic 321, 3) := by decide +kernel
theorem d_M_wides_4 : decode m_M_wides.2.1 4 = .ok (.ifCond .eq (13), 3) := by decide +kernel
theorem d_M_wides_18 : decode m_M_wides.2.1 18 = .ok (.ireturn, 1) := by decide +kernel
theorem d_M_wides_11 : decode m_M_wides.2.1 11 = .ok (.invokestatic 105, 3) := by decide +kernel
theorem d_M_wides_14 : decode m_M_wides.2.1 14 = .ok (.ifCond .ne (5), 3) := by decide +kernel
theorem d_M_wides_25 : decode m_M_wides.2.1 25 = .ok (.ifCond .le (6), 3) := by decide +kernel
theorem d_M_wides_37 : decode m_M_wides.2.1 37 = .ok (.ifCond .ge (6), 3) := by decide +kernel
theorem d_M_wides_52 : decode m_M_wides.2.1 52 = .ok (.if_icmp .ge (63), 3) := by decide +kernel
theorem d_M_wides_117 : decode m_M_wides.2.1 117 = .ok (.ireturn, 1) := by decide +kernel
theorem d_M_wides_56 : decode m_M_wides.2.1 56 = .ok (.ifCond .lt (16), 3) := by decide +kernel
theorem d_M_wides_74 : decode m_M_wides.2.1 74 = .ok (.ireturn, 1) := by decide +kernel
theorem d_M_wides_69 : decode m_M_wides.2.1 69 = .ok (.if_icmp .lt (6), 3) := by decide +kernel
theorem d_M_wides_94 : decode m_M_wides.2.1 94 = .ok (.invokevirtual 327, 3) := by decide +kernel
theorem d_M_wides_98 : decode m_M_wides.2.1 98 = .ok (.if_icmp .ne (7), 3) := by decide +kernel
theorem d_M_wides_112 : decode m_M_wides.2.1 112 = .ok (.goto (-63), 3) := by decide +kernel
theorem d_M_wides_102 : decode m_M_wides.2.1 102 = .ok (.goto (4), 3) := by decide +kernel
theorem d_M_wides_42 : decode m_M_wides.2.1 42 = .ok (.ireturn, 1) := by decide +kernel
theorem d_M_wides_30 : decode m_M_wides.2.1 30 = .ok (.ireturn, 1) := by decide +kernel
def lp_M_wides_49 (x1 : Int32) (x2 : Int32) (x3 : Int32)   : Nat → hs → Int32 → Int32 → Option (Int32 × hs)
  | 0, _, _, _ => none
  | n + 1, S, x4, x5 => (if x3 ≤ x5 then some (x4, S) else (if x2 < 0 then some ((-12 : Int32), S) else ck (inb x1 4) ((if x2 < ((gI S 208 (x1).toNatClampNeg) - x5) then ck (inb ((((40 : Int32) * x1) + x2) + x5) 160) (bd (f_M_widen  S x5 (gI S 206 (((((40 : Int32) * x1) + x2) + x5)).toNatClampNeg)) fun r17 S18 => (if r17 = (-1 : Int32) then lp_M_wides_49 x1 x2 x3 n S18 (x4 + (0 : Int32)) (x5 + (1 : Int32)) else lp_M_wides_49 x1 x2 x3 n S18 (x4 + (1 : Int32)) (x5 + (1 : Int32)))) else some ((-12 : Int32), S)))))
def f_M_wides  (S : hs) (x1 : Int32) (x2 : Int32) (x3 : Int32) : Option (Int32 × hs) := bd (f_M_isSheet  S x1) fun r1 S2 => (if r1 = 0 then some ((-1 : Int32), S2) else bd (f_M_in  S2 x3 (0 : Int32) (20 : Int32)) fun r5 S6 => (if r5 = 0 then some ((-1 : Int32), S6) else ck (inb x1 4) ((if (gI S6 207 (x1).toNatClampNeg) ≤ 0 then (if 0 ≤ (gI S6 207 (x1).toNatClampNeg) then lp_M_wides_49 x1 x2 x3 1000 S6 (0 : Int32) (0 : Int32) else some ((-11 : Int32), S6)) else some ((-13 : Int32), S6)))))
theorem lo_M_wides_49 (w : Wd) (d : Nat) (c : cx) {n0 z0 : Nat} {z : Int32 × hs}   (x1 : Int32) (x2 : Int32) (x3 : Int32)    :
    ∀ (n : Nat) (S : hs) (x4 : Int32) (x5 : Int32), lp_M_wides_49 x1 x2 x3 n S x4 x5 = some z → J w (d + 4) m_M_wides (n0, z0, some (.int z.1), mk c z.2) 49 [some (.ref 191), some (.int x1), some (.int x2), some (.int x3), some (.int x4), some (.int x5)] [] (mk c S) := by
  intro n
  induction n with
  | zero => intro S x4 x5 H; cases H
  | succ n ih =>
    intro S x4 x5 H
    rw [lp_M_wides_49] at H
    refine J.run b_M_wides_49_2 k_M_wides_49_2 rfl (show J w (d + 4) m_M_wides (n0, z0, some (.int z.1), mk c z.2) 52 [some (.ref 191), some (.int x1), some (.int x2), some (.int x3), some (.int x4), some (.int x5)] [.int x3, .int x5] (mk c S) from ?_)
    refine J.cge (tgt := 115) d_M_wides_52 rfl (fun q12 => ?_) (fun q12 => ?_)
    · have H := ite_t H q12
      refine J.run b_M_wides_115_1 k_M_wides_115_1 rfl (show J w (d + 4) m_M_wides (n0, z0, some (.int z.1), mk c z.2) 117 [some (.ref 191), some (.int x1), some (.int x2), some (.int x3), some (.int x4), some (.int x5)] [.int x4] (mk c S) from ?_)
      obtain rfl := some_e H
      exact J.iret d_M_wides_117 rfl rfl
    · have H := ite_f H q12
      refine J.run b_M_wides_55_1 k_M_wides_55_1 rfl (show J w (d + 4) m_M_wides (n0, z0, some (.int z.1), mk c z.2) 56 [some (.ref 191), some (.int x1), some (.int x2), some (.int x3), some (.int x4), some (.int x5)] [.int x2] (mk c S) from ?_)
      refine J.zlt (tgt := 72) d_M_wides_56 rfl (fun q13 => ?_) (fun q13 => ?_)
      · have H := ite_t H q13
        refine J.run b_M_wides_72_1 k_M_wides_72_1 rfl (show J w (d + 4) m_M_wides (n0, z0, some (.int z.1), mk c z.2) 74 [some (.ref 191), some (.int x1), some (.int x2), some (.int x3), some (.int x4), some (.int x5)] [.int (-12 : Int32)] (mk c S) from ?_)
        obtain rfl := some_e H
        exact J.iret d_M_wides_74 rfl rfl
      · have H := ite_f H q13
        obtain ⟨g14, H⟩ := ck_e H
        refine J.run b_M_wides_59_7 k_M_wides_59_7 rfl (And.intro (okO_st (S := S) rfl) (And.intro (okA_st (S := S) (n := 4) rfl g14) (show J w (d + 4) m_M_wides (n0, z0, some (.int z.1), mk c z.2) 69 [some (.ref 191), some (.int x1), some (.int x2), some (.int x3), some (.int x4), some (.int x5)] [.int ((gI S 208 (x1).toNatClampNeg) - x5), .int x2] (mk c S) from ?_)))
        refine J.clt (tgt := 75) d_M_wides_69 rfl (fun q15 => ?_) (fun q15 => ?_)
        · have H := ite_t H q15
          obtain ⟨g16, H⟩ := ck_e H
          refine J.run b_M_wides_75_13 k_M_wides_75_13 rfl (And.intro (okO_st (S := S) rfl) (And.intro (okA_st (S := S) (n := 160) rfl g16) (show J w (d + 4) m_M_wides (n0, z0, some (.int z.1), mk c z.2) 94 [some (.ref 191), some (.int x1), some (.int x2), some (.int x3), some (.int x4), some (.int x5)] [.int (gI S 206 (((((40 : Int32) * x1) + x2) + x5)).toNatClampNeg), .int x5, .ref 191, .int x4] (mk c S) from ?_)))
          obtain ⟨r17, S18, h19, H⟩ := bd_e H
          refine J.callV (y := m_M_widen) (av := [.int x5, .int (gI S 206 (((((40 : Int32) * x1) + x2) + x5)).toNatClampNeg)]) (rest := [.int x4]) (q := 191) l_M_327 d_M_wides_94 (isC_st rfl rfl) (c_M_widen w (d + 0) c  S x5 (gI S 206 (((((40 : Int32) * x1) + x2) + x5)).toNatClampNeg) h19) rfl (Nat.le_of_ble_eq_true rfl) ⟨Nat.le_refl _, Nat.le_refl _⟩ (show J w (d + 4) m_M_wides (n0, z0, some (.int z.1), mk c z.2) 97 [some (.ref 191), some (.int x1), some (.int x2), some (.int x3), some (.int x4), some (.int x5)] [.int r17, .int x4] (mk c S18) from ?_)
          refine J.run b_M_wides_97_1 k_M_wides_97_1 rfl (show J w (d + 4) m_M_wides (n0, z0, some (.int z.1), mk c z.2) 98 [some (.ref 191), some (.int x1), some (.int x2), some (.int x3), some (.int x4), some (.int x5)] [.int (-1 : Int32), .int r17, .int x4] (mk c S18) from ?_)
          refine J.cne (tgt := 105) d_M_wides_98 rfl (fun q20 => ?_) (fun q20 => ?_)
          · have H := ite_f H q20
            refine J.run b_M_wides_105_4 k_M_wides_105_4 rfl (show J w (d + 4) m_M_wides (n0, z0, some (.int z.1), mk c z.2) 112 [some (.ref 191), some (.int x1), some (.int x2), some (.int x3), some (.int (x4 + (1 : Int32))), some (.int (x5 + (1 : Int32)))] [] (mk c S18) from ?_)
            refine J.goto (tgt := 49) d_M_wides_112 rfl ?_
            refine J.mask [true, true, true, true, true, true] ?_
            exact ih S18 (x4 + (1 : Int32)) (x5 + (1 : Int32)) H
          · have H := ite_t H q20
            refine J.run b_M_wides_101_1 k_M_wides_101_1 rfl (show J w (d + 4) m_M_wides (n0, z0, some (.int z.1), mk c z.2) 102 [some (.ref 191), some (.int x1), some (.int x2), some (.int x3), some (.int x4), some (.int x5)] [.int (0 : Int32), .int x4] (mk c S18) from ?_)
            refine J.goto (tgt := 106) d_M_wides_102 rfl ?_
            refine J.run b_M_wides_106_3 k_M_wides_106_3 rfl (show J w (d + 4) m_M_wides (n0, z0, some (.int z.1), mk c z.2) 112 [some (.ref 191), some (.int x1), some (.int x2), some (.int x3), some (.int (x4 + (0 : Int32))), some (.int (x5 + (1 : Int32)))] [] (mk c S18) from ?_)
            refine J.goto (tgt := 49) d_M_wides_112 rfl ?_
            refine J.mask [true, true, true, true, true, true] ?_
            exact ih S18 (x4 + (0 : Int32)) (x5 + (1 : Int32)) H
        · have H := ite_f H q15
          refine J.run b_M_wides_72_1 k_M_wides_72_1 rfl (show J w (d + 4) m_M_wides (n0, z0, some (.int z.1), mk c z.2) 74 [some (.ref 191), some (.int x1), some (.int x2), some (.int x3), some (.int x4), some (.int x5)] [.int (-12 : Int32)] (mk c S) from ?_)
          obtain rfl := some_e H
          exact J.iret d_M_wides_74 rfl rfl
theorem c_M_wides (w : Wd) (d : Nat) (c : cx)   (S : hs) (x1 : Int32) (x2 : Int32) (x3 : Int32)  {z : Int32 × hs} (H : f_M_wides S x1 x2 x3 = some z) : Cl w (d + 4) m_M_wides [.ref 191, .int x1, .int x2, .int x3] (mk c S) (some (.int z.1)) (mk c z.2) := by
  refine Cl.of (Nat.le_refl _) (Nat.le_refl _) (by decide +kernel) (Nat.le_of_ble_eq_true rfl) ?_
  unfold f_M_wides at H
  generalize hN (mk c S) = n0
  generalize hZ (mk c S) = z0
  show J w (d + 4) m_M_wides (n0, z0, some (.int z.1), mk c z.2) 0 [some (.ref 191), some (.int x1), some (.int x2), some (.int x3), none, none] [] (mk c S)
  refine J.run b_M_wides_0_1 k_M_wides_0_1 rfl (show J w (d + 4) m_M_wides (n0, z0, some (.int z.1), mk c z.2) 1 [some (.ref 191), some (.int x1), some (.int x2), some (.int x3), none, none] [.int x1] (mk c S) from ?_)
  obtain ⟨r1, S2, h3, H⟩ := bd_e H
  refine J.callS (y := m_M_isSheet) (av := [.int x1]) (rest := []) l_M_321 d_M_wides_1 (c_M_isSheet w (d + 1) c  S x1 h3) rfl (Nat.le_of_ble_eq_true rfl) ⟨Nat.le_refl _, Nat.le_refl _⟩ (show J w (d + 4) m_M_wides (n0, z0, some (.int z.1), mk c z.2) 4 [some (.ref 191), some (.int x1), some (.int x2), some (.int x3), none, none] [.int r1] (mk c S2) from ?_)
  refine J.zeq (tgt := 17) d_M_wides_4 rfl (fun q4 => ?_) (fun q4 => ?_)
  · have H := ite_t H q4
    refine J.run b_M_wides_17_1 k_M_wides_17_1 rfl (show J w (d + 4) m_M_wides (n0, z0, some (.int z.1), mk c z.2) 18 [some (.ref 191), some (.int x1), some (.int x2), some (.int x3), none, none] [.int (-1 : Int32)] (mk c S2) from ?_)
    obtain rfl := some_e H
    exact J.iret d_M_wides_18 rfl rfl
  · have H := ite_f H q4
    refine J.run b_M_wides_7_3 k_M_wides_7_3 rfl (show J w (d + 4) m_M_wides (n0, z0, some (.int z.1), mk c z.2) 11 [some (.ref 191), some (.int x1), some (.int x2), some (.int x3), none, none] [.int (20 : Int32), .int (0 : Int32), .int x3] (mk c S2) from ?_)
    obtain ⟨r5, S6, h7, H⟩ := bd_e H
    refine J.callS (y := m_M_in) (av := [.int x3, .int (0 : Int32), .int (20 : Int32)]) (rest := []) l_M_105 d_M_wides_11 (c_M_in w (d + 2) c  S2 x3 (0 : Int32) (20 : Int32) h7) rfl (Nat.le_of_ble_eq_true rfl) ⟨Nat.le_refl _, Nat.le_refl _⟩ (show J w (d + 4) m_M_wides (n0, z0, some (.int z.1), mk c z.2) 14 [some (.ref 191), some (.int x1), some (.int x2), some (.int x3), none, none] [.int r5] (mk c S6) from ?_)
    refine J.zne (tgt := 19) d_M_wides_14 rfl (fun q8 => ?_) (fun q8 => ?_)
    · have H := ite_f H q8
      obtain ⟨g9, H⟩ := ck_e H
      refine J.run b_M_wides_19_4 k_M_wides_19_4 rfl (And.intro (okO_st (S := S6) rfl) (And.intro (okA_st (S := S6) (n := 4) rfl g9) (show J w (d + 4) m_M_wides (n0, z0, some (.int z.1), mk c z.2) 25 [some (.ref 191), some (.int x1), some (.int x2), some (.int x3), none, none] [.int (gI S6 207 (x1).toNatClampNeg)] (mk c S6) from ?_)))
      refine J.zle (tgt := 31) d_M_wides_25 rfl (fun q10 => ?_) (fun q10 => ?_)
      · have H := ite_t H q10
        refine J.run b_M_wides_31_4 k_M_wides_31_4 rfl (And.intro (okO_st (S := S6) rfl) (And.intro (okA_st (S := S6) (n := 4) rfl g9) (show J w (d + 4) m_M_wides (n0, z0, some (.int z.1), mk c z.2) 37 [some (.ref 191), some (.int x1), some (.int x2), some (.int x3), none, none] [.int (gI S6 207 (x1).toNatClampNeg)] (mk c S6) from ?_)))
        refine J.zge (tgt := 43) d_M_wides_37 rfl (fun q11 => ?_) (fun q11 => ?_)
        · have H := ite_t H q11
          refine J.run b_M_wides_43_4 k_M_wides_43_4 rfl (show J w (d + 4) m_M_wides (n0, z0, some (.int z.1), mk c z.2) 49 [some (.ref 191), some (.int x1), some (.int x2), some (.int x3), some (.int (0 : Int32)), some (.int (0 : Int32))] [] (mk c S6) from ?_)
          refine J.mask [true, true, true, true, true, true] ?_
          refine lo_M_wides_49 w d c x1 x2 x3  1000 S6 (0 : Int32) (0 : Int32) H
        · have H := ite_f H q11
          refine J.run b_M_wides_40_1 k_M_wides_40_1 rfl (show J w (d + 4) m_M_wides (n0, z0, some (.int z.1), mk c z.2) 42 [some (.ref 191), some (.int x1), some (.int x2), some (.int x3), none, none] [.int (-11 : Int32)] (mk c S6) from ?_)
          obtain rfl := some_e H
          exact J.iret d_M_wides_42 rfl rfl
      · have H := ite_f H q10
        refine J.run b_M_wides_28_1 k_M_wides_28_1 rfl (show J w (d + 4) m_M_wides (n0, z0, some (.int z.1), mk c z.2) 30 [some (.ref 191), some (.int x1), some (.int x2), some (.int x3), none, none] [.int (-13 : Int32)] (mk c S6) from ?_)
        obtain rfl := some_e H
        exact J.iret d_M_wides_30 rfl rfl
    · have H := ite_t H q8
      refine J.run b_M_wides_17_1 k_M_wides_17_1 rfl (show J w (d + 4) m_M_wides (n0, z0, some (.int z.1), mk c z.2) 18 [some (.ref 191), some (.int x1), some (.int x2), some (.int x3), none, none] [.int (-1 : Int32)] (mk c S6) from ?_)
      obtain rfl := some_e H
      exact J.iret d_M_wides_18 rfl rfl
def b_M_shelf_0_3 : List Ins := [(.iload_n 1, 0, 0, 0), (.iconst (0), 0, 0, 0), (.iconst (3), 0, 0, 0)]
theorem k_M_shelf_0_3 : bok m_M_shelf 0 b_M_shelf_0_3 = true := by decide +kernel
def b_M_shelf_49_1 : List Ins := [(.iconst (-1), 0, 0, 0)]
theorem k_M_shelf_49_1 : bok m_M_shelf 49 b_M_shelf_49_1 = true := by decide +kernel
def b_M_shelf_9_3 : List Ins := [(.iload_n 2, 0, 0, 0), (.iconst (0), 0, 0, 0), (.iconst (2), 0, 0, 0)]
theorem k_M_shelf_9_3 : bok m_M_shelf 9 b_M_shelf_9_3 = true := by decide +kernel
def b_M_shelf_18_2 : List Ins := [(.iload_n 2, 0, 0, 0), (.iconst (1), 0, 0, 0)]
theorem k_M_shelf_18_2 : bok m_M_shelf 18 b_M_shelf_18_2 = true := by decide +kernel
def b_M_shelf_30_1 : List Ins := [(.iload_n 2, 0, 0, 0)]
theorem k_M_shelf_30_1 : bok m_M_shelf 30 b_M_shelf_30_1 = true := by decide +kernel
def b_M_shelf_51_1 : List Ins := [(.iload_n 2, 0, 0, 0)]
theorem k_M_shelf_51_1 : bok m_M_shelf 51 b_M_shelf_51_1 = true := by decide +kernel
def b_M_shelf_68_4 : List Ins := [(.aload_n 0, 0, 0, 0), (.getfield 93, 11, 27, 2), (.iload_n 1, 0, 0, 0), (.iload_n 2, 0, 0, 0)]
theorem k_M_shelf_68_4 : bok m_M_shelf 68 b_M_shelf_68_4 = true := by decide +kernel
def b_M_shelf_81_2 : List Ins := [(.iload_n 2, 0, 0, 0), (.iconst (1), 0, 0, 0)]
theorem k_M_shelf_81_2 : bok m_M_shelf 81 b_M_shelf_81_2 = true := by decide +kernel
def b_M_shelf_99_2 : List Ins := [(.iconst (0), 0, 0, 0), (.iastore, 0, 0, 0)]
theorem k_M_shelf_99_2 : bok m_M_shelf 99 b_M_shelf_99_2 = true := by decide +kernel
def b_M_shelf_101_4 : List Ins := [(.aload_n 0, 0, 0, 0), (.getfield 96, 11, 28, 2), (.iload_n 1, 0, 0, 0), (.iload_n 2, 0, 0, 0)]
theorem k_M_shelf_101_4 : bok m_M_shelf 101 b_M_shelf_101_4 = true := by decide +kernel
def b_M_shelf_120_2 : List Ins := [(.iload_n 2, 0, 0, 0), (.iconst (1), 0, 0, 0)]
theorem k_M_shelf_120_2 : bok m_M_shelf 120 b_M_shelf_120_2 = true := by decide +kernel
def b_M_shelf_134_2 : List Ins := [(.iconst (0), 0, 0, 0), (.iastore, 0, 0, 0)]
theorem k_M_shelf_134_2 : bok m_M_shelf 134 b_M_shelf_134_2 = true := by decide +kernel
def b_M_shelf_136_5 : List Ins := [(.aload_n 0, 0, 0, 0), (.getfield 99, 11, 29, 2), (.iload_n 1, 0, 0, 0), (.iload_n 2, 0, 0, 0), (.iconst (1), 0, 0, 0)]
theorem k_M_shelf_136_5 : bok m_M_shelf 136 b_M_shelf_136_5 = true := by decide +kernel
def b_M_shelf_155_3 : List Ins := [(.iconst (0), 0, 0, 0), (.iastore, 0, 0, 0), (.iconst (1), 0, 0, 0)]
theorem k_M_shelf_155_3 : bok m_M_shelf 155 b_M_shelf_155_3 = true := by decide +kernel
def b_M_shelf_146_4 : List Ins := [(.aload_n 0, 0, 0, 0), (.getfield 90, 11, 26, 2), (.iload_n 3, 0, 0, 0), (.iaload, 0, 0, 0)]
theorem k_M_shelf_146_4 : bok m_M_shelf 146 b_M_shelf_146_4 = true := by decide +kernel
def b_M_shelf_156_2 : List Ins := [(.iastore, 0, 0, 0), (.iconst (1), 0, 0, 0)]
theorem k_M_shelf_156_2 : bok m_M_shelf 156 b_M_shelf_156_2 = true := by decide +kernel
def b_M_shelf_125_4 : List Ins := [(.aload_n 0, 0, 0, 0), (.getfield 87, 11, 25, 2), (.iload_n 3, 0, 0, 0), (.iaload, 0, 0, 0)]
theorem k_M_shelf_125_4 : bok m_M_shelf 125 b_M_shelf_125_4 = true := by decide +kernel
def b_M_shelf_135_1 : List Ins := [(.iastore, 0, 0, 0)]
theorem k_M_shelf_135_1 : bok m_M_shelf 135 b_M_shelf_135_1 = true := by decide +kernel
def b_M_shelf_110_5 : List Ins := [(.bipush (40), 0, 0, 0), (.iload_n 3, 0, 0, 0), (.imul, 0, 0, 0), (.iload 4, 0, 0, 0), (.iadd, 0, 0, 0)]
theorem k_M_shelf_110_5 : bok m_M_shelf 110 b_M_shelf_110_5 = true := by decide +kernel
def b_M_shelf_86_4 : List Ins := [(.aload_n 0, 0, 0, 0), (.getfield 87, 11, 25, 2), (.iload_n 3, 0, 0, 0), (.iaload, 0, 0, 0)]
theorem k_M_shelf_86_4 : bok m_M_shelf 86 b_M_shelf_86_4 = true := by decide +kernel
def b_M_shelf_95_1 : List Ins := [(.iconst (2), 0, 0, 0)]
theorem k_M_shelf_95_1 : bok m_M_shelf 95 b_M_shelf_95_1 = true := by decide +kernel
def b_M_shelf_100_1 : List Ins := [(.iastore, 0, 0, 0)]
theorem k_M_shelf_100_1 : bok m_M_shelf 100 b_M_shelf_100_1 = true := by decide +kernel
def b_M_shelf_77_1 : List Ins := [(.iconst (1), 0, 0, 0)]
theorem k_M_shelf_77_1 : bok m_M_shelf 77 b_M_shelf_77_1 = true := by decide +kernel
def b_M_shelf_55_3 : List Ins := [(.aload_n 0, 0, 0, 0), (.iload_n 3, 0, 0, 0), (.iload 4, 0, 0, 0)]
theorem k_M_shelf_55_3 : bok m_M_shelf 55 b_M_shelf_55_3 = true := by decide +kernel
def b_M_shelf_65_1 : List Ins := [(.bipush (-3), 0, 0, 0)]
theorem k_M_shelf_65_1 : bok m_M_shelf 65 b_M_shelf_65_1 = true := by decide +kernel
def b_M_shelf_34_1 : List Ins := [(.iload_n 3, 0, 0, 0)]
theorem k_M_shelf_34_1 : bok m_M_shelf 34 b_M_shelf_34_1 = true := by decide +kernel
def b_M_shelf_41_1 : List Ins := [(.iload 4, 0, 0, 0)]
theorem k_M_shelf_41_1 : bok m_M_shelf 41 b_M_shelf_41_1 = true := by decide +kernel
def b_M_shelf_23_1 : List Ins := [(.iload_n 3, 0, 0, 0)]
theorem k_M_shelf_23_1 : bok m_M_shelf 23 b_M_shelf_23_1 = true := by decide +kernel
theorem d_M_shelf_3 : decode m_M_shelf.2.1 3 = .ok (.invokestatic 105, 3) := by decide +kernel
theorem d_M_shelf_6 : decode m_M_shelf.2.1 6 = .ok (.ifCond .eq (43), 3) := by decide +kernel
theorem d_M_shelf_50 : decode m_M_shelf.2.1 50 = .ok (.ireturn, 1) := by decide +kernel
theorem d_M_shelf_12 : decode m_M_shelf.2.1 12 = .ok (.invokestatic 105, 3) := by decide +kernel
theorem d_M_shelf_15 : decode m_M_shelf.2.1 15 = .ok (.ifCond .eq (34), 3) := by decide +kernel
theorem d_M_shelf_20 : decode m_M_shelf.2.1 20 = .ok (.if_icmp .ne (10), 3) := by decide +kernel
theorem d_M_shelf_31 : decode m_M_shelf.2.1 31 = .ok (.ifCond .ne (20), 3) := by decide +kernel
theorem d_M_shelf_52 : decode m_M_shelf.2.1 52 = .ok (.ifCond .ne (16), 3) := by decide +kernel
theorem d_M_shelf_74 : decode m_M_shelf.2.1 74 = .ok (.ifCond .ne (7), 3) := by decide +kernel
theorem d_M_shelf_83 : decode m_M_shelf.2.1 83 = .ok (.if_icmp .ne (16), 3) := by decide +kernel
theorem d_M_shelf_107 : decode m_M_shelf.2.1 107 = .ok (.ifCond .ne (13), 3) := by decide +kernel
theorem d_M_shelf_122 : decode m_M_shelf.2.1 122 = .ok (.if_icmp .ne (12), 3) := by decide +kernel
theorem d_M_shelf_143 : decode m_M_shelf.2.1 143 = .ok (.if_icmp .ne (12), 3) := by decide +kernel
theorem d_M_shelf_158 : decode m_M_shelf.2.1 158 = .ok (.ireturn, 1) := by decide +kernel
theorem d_M_shelf_152 : decode m_M_shelf.2.1 152 = .ok (.goto (4), 3) := by decide +kernel
theorem d_M_shelf_131 : decode m_M_shelf.2.1 131 = .ok (.goto (4), 3) := by decide +kernel
theorem d_M_shelf_117 : decode m_M_shelf.2.1 117 = .ok (.goto (18), 3) := by decide +kernel
theorem d_M_shelf_92 : decode m_M_shelf.2.1 92 = .ok (.ifCond .lt (7), 3) := by decide +kernel
theorem d_M_shelf_96 : decode m_M_shelf.2.1 96 = .ok (.goto (4), 3) := by decide +kernel
theorem d_M_shelf_78 : decode m_M_shelf.2.1 78 = .ok (.goto (22), 3) := by decide +kernel
theorem d_M_shelf_59 : decode m_M_shelf.2.1 59 = .ok (.invokevirtual 154, 3) := by decide +kernel
theorem d_M_shelf_62 : decode m_M_shelf.2.1 62 = .ok (.ifCond .ne (6), 3) := by decide +kernel
theorem d_M_shelf_67 : decode m_M_shelf.2.1 67 = .ok (.ireturn, 1) := by decide +kernel
theorem d_M_shelf_35 : decode m_M_shelf.2.1 35 = .ok (.invokestatic 151, 3) := by decide +kernel
theorem d_M_shelf_38 : decode m_M_shelf.2.1 38 = .ok (.ifCond .eq (11), 3) := by decide +kernel
theorem d_M_shelf_43 : decode m_M_shelf.2.1 43 = .ok (.invokestatic 151, 3) := by decide +kernel
theorem d_M_shelf_46 : decode m_M_shelf.2.1 46 = .ok (.ifCond .ne (5), 3) := by decide +kernel
theorem d_M_shelf_24 : decode m_M_shelf.2.1 24 = .ok (.invokestatic 321, 3) := by decide +kernel
theorem d_M_shelf_27 : decode m_M_shelf.2.1 27 = .ok (.ifCond .eq (22), 3) := by decide +kernel
def jn_M_shelf_136 (S : hs) (x1 : Int32) (x2 : Int32) (x3 : Int32)  : Option (Int32 × hs) := (if x2 = (1 : Int32) then ck (inb x3 4) (ck (inb x1 4) (some ((1 : Int32), (uI S 211 (x1).toNatClampNeg (gI S 208 (x3).toNatClampNeg))))) else ck (inb x1 4) (some ((1 : Int32), (uI S 211 (x1).toNatClampNeg (0 : Int32)))))
def jn_M_shelf_101 (S : hs) (x1 : Int32) (x2 : Int32) (x3 : Int32) (x4 : Int32)  : Option (Int32 × hs) := (if x2 = 0 then ck (inb x1 4) (jn_M_shelf_136 (uI S 210 (x1).toNatClampNeg (((40 : Int32) * x3) + x4)) x1 x2 x3) else (if x2 = (1 : Int32) then ck (inb x3 4) (ck (inb x1 4) (jn_M_shelf_136 (uI S 210 (x1).toNatClampNeg (gI S 207 (x3).toNatClampNeg)) x1 x2 x3)) else ck (inb x1 4) (jn_M_shelf_136 (uI S 210 (x1).toNatClampNeg (0 : Int32)) x1 x2 x3)))
def jn_M_shelf_68 (S : hs) (x1 : Int32) (x2 : Int32) (x3 : Int32) (x4 : Int32)  : Option (Int32 × hs) := (if x2 = 0 then ck (inb x1 4) (jn_M_shelf_101 (uI S 209 (x1).toNatClampNeg (1 : Int32)) x1 x2 x3 x4) else (if x2 = (1 : Int32) then ck (inb x3 4) ((if (gI S 207 (x3).toNatClampNeg) < 0 then ck (inb x1 4) (jn_M_shelf_101 (uI S 209 (x1).toNatClampNeg (0 : Int32)) x1 x2 x3 x4) else ck (inb x1 4) (jn_M_shelf_101 (uI S 209 (x1).toNatClampNeg (2 : Int32)) x1 x2 x3 x4))) else ck (inb x1 4) (jn_M_shelf_101 (uI S 209 (x1).toNatClampNeg (0 : Int32)) x1 x2 x3 x4)))
def jn_M_shelf_51 (S : hs) (x1 : Int32) (x2 : Int32) (x3 : Int32) (x4 : Int32)  : Option (Int32 × hs) := (if x2 = 0 then bd (f_M_kindOf  S x3 x4) fun r30 S31 => (if r30 = 0 then some ((-3 : Int32), S31) else jn_M_shelf_68 S31 x1 x2 x3 x4) else jn_M_shelf_68 S x1 x2 x3 x4)
def f_M_shelf  (S : hs) (x1 : Int32) (x2 : Int32) (x3 : Int32) (x4 : Int32) : Option (Int32 × hs) := bd (f_M_in  S x1 (0 : Int32) (3 : Int32)) fun r1 S2 => (if r1 = 0 then some ((-1 : Int32), S2) else bd (f_M_in  S2 x2 (0 : Int32) (2 : Int32)) fun r5 S6 => (if r5 = 0 then some ((-1 : Int32), S6) else (if x2 = (1 : Int32) then bd (f_M_isSheet  S6 x3) fun r42 S43 => (if r42 = 0 then some ((-1 : Int32), S43) else (if x2 = 0 then bd (f_M_isIndex  S43 x3) fun r47 S48 => (if r47 = 0 then some ((-1 : Int32), S48) else bd (f_M_isIndex  S48 x4) fun r51 S52 => (if r51 = 0 then some ((-1 : Int32), S52) else jn_M_shelf_51 S52 x1 x2 x3 x4)) else jn_M_shelf_51 S43 x1 x2 x3 x4)) else (if x2 = 0 then bd (f_M_isIndex  S6 x3) fun r34 S35 => (if r34 = 0 then some ((-1 : Int32), S35) else bd (f_M_isIndex  S35 x4) fun r38 S39 => (if r38 = 0 then some ((-1 : Int32), S39) else jn_M_shelf_51 S39 x1 x2 x3 x4)) else jn_M_shelf_51 S6 x1 x2 x3 x4))))
theorem jo_M_shelf_136 (w : Wd) (d : Nat) (c : cx) {n0 z0 : Nat} {z : Int32 × hs} (S : hs) (x1 : Int32) (x2 : Int32) (x3 : Int32)  (H : jn_M_shelf_136 S x1 x2 x3 = some z) : J w (d + 4) m_M_shelf (n0, z0, some (.int z.1), mk c z.2) 136 [some (.ref 191), some (.int x1), some (.int x2), some (.int x3), none] [] (mk c S) := by
  unfold jn_M_shelf_136 at H
  refine J.run b_M_shelf_136_5 k_M_shelf_136_5 rfl (And.intro (okO_st (S := S) rfl) (show J w (d + 4) m_M_shelf (n0, z0, some (.int z.1), mk c z.2) 143 [some (.ref 191), some (.int x1), some (.int x2), some (.int x3), none] [.int (1 : Int32), .int x2, .int x1, .ref 211] (mk c S) from ?_))
  refine J.cne (tgt := 155) d_M_shelf_143 rfl (fun q18 => ?_) (fun q18 => ?_)
  · have H := ite_f H q18
    obtain ⟨g19, H⟩ := ck_e H
    refine J.run b_M_shelf_155_3 k_M_shelf_155_3 rfl (And.intro (okB_st (S := S) (n := 4) rfl g19) (show J w (d + 4) m_M_shelf (n0, z0, some (.int z.1), mk c z.2) 158 [some (.ref 191), some (.int x1), some (.int x2), some (.int x3), none] [.int (1 : Int32)] (mk c (uI S 211 (x1).toNatClampNeg (0 : Int32))) from ?_))
    obtain rfl := some_e H
    exact J.iret d_M_shelf_158 rfl rfl
  · have H := ite_t H q18
    obtain ⟨g20, H⟩ := ck_e H
    refine J.run b_M_shelf_146_4 k_M_shelf_146_4 rfl (And.intro (okO_st (S := S) rfl) (And.intro (okA_st (S := S) (n := 4) rfl g20) (show J w (d + 4) m_M_shelf (n0, z0, some (.int z.1), mk c z.2) 152 [some (.ref 191), some (.int x1), some (.int x2), some (.int x3), none] [.int (gI S 208 (x3).toNatClampNeg), .int x1, .ref 211] (mk c S) from ?_)))
    refine J.goto (tgt := 156) d_M_shelf_152 rfl ?_
    obtain ⟨g21, H⟩ := ck_e H
    refine J.run b_M_shelf_156_2 k_M_shelf_156_2 rfl (And.intro (okB_st (S := S) (n := 4) rfl g21) (show J w (d + 4) m_M_shelf (n0, z0, some (.int z.1), mk c z.2) 158 [some (.ref 191), some (.int x1), some (.int x2), some (.int x3), none] [.int (1 : Int32)] (mk c (uI S 211 (x1).toNatClampNeg (gI S 208 (x3).toNatClampNeg))) from ?_))
    obtain rfl := some_e H
    exact J.iret d_M_shelf_158 rfl rfl
theorem jo_M_shelf_101 (w : Wd) (d : Nat) (c : cx) {n0 z0 : Nat} {z : Int32 × hs} (S : hs) (x1 : Int32) (x2 : Int32) (x3 : Int32) (x4 : Int32)  (H : jn_M_shelf_101 S x1 x2 x3 x4 = some z) : J w (d + 4) m_M_shelf (n0, z0, some (.int z.1), mk c z.2) 101 [some (.ref 191), some (.int x1), some (.int x2), some (.int x3), some (.int x4)] [] (mk c S) := by
  unfold jn_M_shelf_101 at H
  refine J.run b_M_shelf_101_4 k_M_shelf_101_4 rfl (And.intro (okO_st (S := S) rfl) (show J w (d + 4) m_M_shelf (n0, z0, some (.int z.1), mk c z.2) 107 [some (.ref 191), some (.int x1), some (.int x2), some (.int x3), some (.int x4)] [.int x2, .int x1, .ref 210] (mk c S) from ?_))
  refine J.zne (tgt := 120) d_M_shelf_107 rfl (fun q15 => ?_) (fun q15 => ?_)
  · have H := ite_f H q15
    refine J.run b_M_shelf_120_2 k_M_shelf_120_2 rfl (show J w (d + 4) m_M_shelf (n0, z0, some (.int z.1), mk c z.2) 122 [some (.ref 191), some (.int x1), some (.int x2), some (.int x3), some (.int x4)] [.int (1 : Int32), .int x2, .int x1, .ref 210] (mk c S) from ?_)
    refine J.cne (tgt := 134) d_M_shelf_122 rfl (fun q16 => ?_) (fun q16 => ?_)
    · have H := ite_f H q16
      obtain ⟨g17, H⟩ := ck_e H
      refine J.run b_M_shelf_134_2 k_M_shelf_134_2 rfl (And.intro (okB_st (S := S) (n := 4) rfl g17) (show J w (d + 4) m_M_shelf (n0, z0, some (.int z.1), mk c z.2) 136 [some (.ref 191), some (.int x1), some (.int x2), some (.int x3), some (.int x4)] [] (mk c (uI S 210 (x1).toNatClampNeg (0 : Int32))) from ?_))
      refine J.mask [true, true, true, true, false] ?_
      exact jo_M_shelf_136 w d c (uI S 210 (x1).toNatClampNeg (0 : Int32)) x1 x2 x3 H
    · have H := ite_t H q16
      obtain ⟨g22, H⟩ := ck_e H
      refine J.run b_M_shelf_125_4 k_M_shelf_125_4 rfl (And.intro (okO_st (S := S) rfl) (And.intro (okA_st (S := S) (n := 4) rfl g22) (show J w (d + 4) m_M_shelf (n0, z0, some (.int z.1), mk c z.2) 131 [some (.ref 191), some (.int x1), some (.int x2), some (.int x3), some (.int x4)] [.int (gI S 207 (x3).toNatClampNeg), .int x1, .ref 210] (mk c S) from ?_)))
      refine J.goto (tgt := 135) d_M_shelf_131 rfl ?_
      obtain ⟨g23, H⟩ := ck_e H
      refine J.run b_M_shelf_135_1 k_M_shelf_135_1 rfl (And.intro (okB_st (S := S) (n := 4) rfl g23) (show J w (d + 4) m_M_shelf (n0, z0, some (.int z.1), mk c z.2) 136 [some (.ref 191), some (.int x1), some (.int x2), some (.int x3), some (.int x4)] [] (mk c (uI S 210 (x1).toNatClampNeg (gI S 207 (x3).toNatClampNeg))) from ?_))
      refine J.mask [true, true, true, true, false] ?_
      exact jo_M_shelf_136 w d c (uI S 210 (x1).toNatClampNeg (gI S 207 (x3).toNatClampNeg)) x1 x2 x3 H
  · have H := ite_t H q15
    refine J.run b_M_shelf_110_5 k_M_shelf_110_5 rfl (show J w (d + 4) m_M_shelf (n0, z0, some (.int z.1), mk c z.2) 117 [some (.ref 191), some (.int x1), some (.int x2), some (.int x3), some (.int x4)] [.int (((40 : Int32) * x3) + x4), .int x1, .ref 210] (mk c S) from ?_)
    refine J.goto (tgt := 135) d_M_shelf_117 rfl ?_
    obtain ⟨g24, H⟩ := ck_e H
    refine J.run b_M_shelf_135_1 k_M_shelf_135_1 rfl (And.intro (okB_st (S := S) (n := 4) rfl g24) (show J w (d + 4) m_M_shelf (n0, z0, some (.int z.1), mk c z.2) 136 [some (.ref 191), some (.int x1), some (.int x2), some (.int x3), some (.int x4)] [] (mk c (uI S 210 (x1).toNatClampNeg (((40 : Int32) * x3) + x4))) from ?_))
    refine J.mask [true, true, true, true, false] ?_
    exact jo_M_shelf_136 w d c (uI S 210 (x1).toNatClampNeg (((40 : Int32) * x3) + x4)) x1 x2 x3 H
theorem jo_M_shelf_68 (w : Wd) (d : Nat) (c : cx) {n0 z0 : Nat} {z : Int32 × hs} (S : hs) (x1 : Int32) (x2 : Int32) (x3 : Int32) (x4 : Int32)  (H : jn_M_shelf_68 S x1 x2 x3 x4 = some z) : J w (d + 4) m_M_shelf (n0, z0, some (.int z.1), mk c z.2) 68 [some (.ref 191), some (.int x1), some (.int x2), some (.int x3), some (.int x4)] [] (mk c S) := by
  unfold jn_M_shelf_68 at H
  refine J.run b_M_shelf_68_4 k_M_shelf_68_4 rfl (And.intro (okO_st (S := S) rfl) (show J w (d + 4) m_M_shelf (n0, z0, some (.int z.1), mk c z.2) 74 [some (.ref 191), some (.int x1), some (.int x2), some (.int x3), some (.int x4)] [.int x2, .int x1, .ref 209] (mk c S) from ?_))
  refine J.zne (tgt := 81) d_M_shelf_74 rfl (fun q12 => ?_) (fun q12 => ?_)
  · have H := ite_f H q12
    refine J.run b_M_shelf_81_2 k_M_shelf_81_2 rfl (show J w (d + 4) m_M_shelf (n0, z0, some (.int z.1), mk c z.2) 83 [some (.ref 191), some (.int x1), some (.int x2), some (.int x3), some (.int x4)] [.int (1 : Int32), .int x2, .int x1, .ref 209] (mk c S) from ?_)
    refine J.cne (tgt := 99) d_M_shelf_83 rfl (fun q13 => ?_) (fun q13 => ?_)
    · have H := ite_f H q13
      obtain ⟨g14, H⟩ := ck_e H
      refine J.run b_M_shelf_99_2 k_M_shelf_99_2 rfl (And.intro (okB_st (S := S) (n := 4) rfl g14) (show J w (d + 4) m_M_shelf (n0, z0, some (.int z.1), mk c z.2) 101 [some (.ref 191), some (.int x1), some (.int x2), some (.int x3), some (.int x4)] [] (mk c (uI S 209 (x1).toNatClampNeg (0 : Int32))) from ?_))
      refine J.mask [true, true, true, true, true] ?_
      exact jo_M_shelf_101 w d c (uI S 209 (x1).toNatClampNeg (0 : Int32)) x1 x2 x3 x4 H
    · have H := ite_t H q13
      obtain ⟨g25, H⟩ := ck_e H
      refine J.run b_M_shelf_86_4 k_M_shelf_86_4 rfl (And.intro (okO_st (S := S) rfl) (And.intro (okA_st (S := S) (n := 4) rfl g25) (show J w (d + 4) m_M_shelf (n0, z0, some (.int z.1), mk c z.2) 92 [some (.ref 191), some (.int x1), some (.int x2), some (.int x3), some (.int x4)] [.int (gI S 207 (x3).toNatClampNeg), .int x1, .ref 209] (mk c S) from ?_)))
      refine J.zlt (tgt := 99) d_M_shelf_92 rfl (fun q26 => ?_) (fun q26 => ?_)
      · have H := ite_t H q26
        obtain ⟨g27, H⟩ := ck_e H
        refine J.run b_M_shelf_99_2 k_M_shelf_99_2 rfl (And.intro (okB_st (S := S) (n := 4) rfl g27) (show J w (d + 4) m_M_shelf (n0, z0, some (.int z.1), mk c z.2) 101 [some (.ref 191), some (.int x1), some (.int x2), some (.int x3), some (.int x4)] [] (mk c (uI S 209 (x1).toNatClampNeg (0 : Int32))) from ?_))
        refine J.mask [true, true, true, true, true] ?_
        exact jo_M_shelf_101 w d c (uI S 209 (x1).toNatClampNeg (0 : Int32)) x1 x2 x3 x4 H
      · have H := ite_f H q26
        refine J.run b_M_shelf_95_1 k_M_shelf_95_1 rfl (show J w (d + 4) m_M_shelf (n0, z0, some (.int z.1), mk c z.2) 96 [some (.ref 191), some (.int x1), some (.int x2), some (.int x3), some (.int x4)] [.int (2 : Int32), .int x1, .ref 209] (mk c S) from ?_)
        refine J.goto (tgt := 100) d_M_shelf_96 rfl ?_
        obtain ⟨g28, H⟩ := ck_e H
        refine J.run b_M_shelf_100_1 k_M_shelf_100_1 rfl (And.intro (okB_st (S := S) (n := 4) rfl g28) (show J w (d + 4) m_M_shelf (n0, z0, some (.int z.1), mk c z.2) 101 [some (.ref 191), some (.int x1), some (.int x2), some (.int x3), some (.int x4)] [] (mk c (uI S 209 (x1).toNatClampNeg (2 : Int32))) from ?_))
        refine J.mask [true, true, true, true, true] ?_
        exact jo_M_shelf_101 w d c (uI S 209 (x1).toNatClampNeg (2 : Int32)) x1 x2 x3 x4 H
  · have H := ite_t H q12
    refine J.run b_M_shelf_77_1 k_M_shelf_77_1 rfl (show J w (d + 4) m_M_shelf (n0, z0, some (.int z.1), mk c z.2) 78 [some (.ref 191), some (.int x1), some (.int x2), some (.int x3), some (.int x4)] [.int (1 : Int32), .int x1, .ref 209] (mk c S) from ?_)
    refine J.goto (tgt := 100) d_M_shelf_78 rfl ?_
    obtain ⟨g29, H⟩ := ck_e H
    refine J.run b_M_shelf_100_1 k_M_shelf_100_1 rfl (And.intro (okB_st (S := S) (n := 4) rfl g29) (show J w (d + 4) m_M_shelf (n0, z0, some (.int z.1), mk c z.2) 101 [some (.ref 191), some (.int x1), some (.int x2), some (.int x3), some (.int x4)] [] (mk c (uI S 209 (x1).toNatClampNeg (1 : Int32))) from ?_))
    refine J.mask [true, true, true, true, true] ?_
    exact jo_M_shelf_101 w d c (uI S 209 (x1).toNatClampNeg (1 : Int32)) x1 x2 x3 x4 H
theorem jo_M_shelf_51 (w : Wd) (d : Nat) (c : cx) {n0 z0 : Nat} {z : Int32 × hs} (S : hs) (x1 : Int32) (x2 : Int32) (x3 : Int32) (x4 : Int32)  (H : jn_M_shelf_51 S x1 x2 x3 x4 = some z) : J w (d + 4) m_M_shelf (n0, z0, some (.int z.1), mk c z.2) 51 [some (.ref 191), some (.int x1), some (.int x2), some (.int x3), some (.int x4)] [] (mk c S) := by
  unfold jn_M_shelf_51 at H
  refine J.run b_M_shelf_51_1 k_M_shelf_51_1 rfl (show J w (d + 4) m_M_shelf (n0, z0, some (.int z.1), mk c z.2) 52 [some (.ref 191), some (.int x1), some (.int x2), some (.int x3), some (.int x4)] [.int x2] (mk c S) from ?_)
  refine J.zne (tgt := 68) d_M_shelf_52 rfl (fun q11 => ?_) (fun q11 => ?_)
  · have H := ite_f H q11
    refine J.mask [true, true, true, true, true] ?_
    exact jo_M_shelf_68 w d c S x1 x2 x3 x4 H
  · have H := ite_t H q11
    refine J.run b_M_shelf_55_3 k_M_shelf_55_3 rfl (show J w (d + 4) m_M_shelf (n0, z0, some (.int z.1), mk c z.2) 59 [some (.ref 191), some (.int x1), some (.int x2), some (.int x3), some (.int x4)] [.int x4, .int x3, .ref 191] (mk c S) from ?_)
    obtain ⟨r30, S31, h32, H⟩ := bd_e H
    refine J.callV (y := m_M_kindOf) (av := [.int x3, .int x4]) (rest := []) (q := 191) l_M_154 d_M_shelf_59 (isC_st rfl rfl) (c_M_kindOf w (d + 0) c  S x3 x4 h32) rfl (Nat.le_of_ble_eq_true rfl) ⟨Nat.le_refl _, Nat.le_refl _⟩ (show J w (d + 4) m_M_shelf (n0, z0, some (.int z.1), mk c z.2) 62 [some (.ref 191), some (.int x1), some (.int x2), some (.int x3), some (.int x4)] [.int r30] (mk c S31) from ?_)
    refine J.zne (tgt := 68) d_M_shelf_62 rfl (fun q33 => ?_) (fun q33 => ?_)
    · have H := ite_f H q33
      refine J.mask [true, true, true, true, true] ?_
      exact jo_M_shelf_68 w d c S31 x1 x2 x3 x4 H
    · have H := ite_t H q33
      refine J.run b_M_shelf_65_1 k_M_shelf_65_1 rfl (show J w (d + 4) m_M_shelf (n0, z0, some (.int z.1), mk c z.2) 67 [some (.ref 191), some (.int x1), some (.int x2), some (.int x3), some (.int x4)] [.int (-3 : Int32)] (mk c S31) from ?_)
      obtain rfl := some_e H
      exact J.iret d_M_shelf_67 rfl rfl
theorem c_M_shelf (w : Wd) (d : Nat) (c : cx)   (S : hs) (x1 : Int32) (x2 : Int32) (x3 : Int32) (x4 : Int32)  {z : Int32 × hs} (H : f_M_shelf S x1 x2 x3 x4 = some z) : Cl w (d + 4) m_M_shelf [.ref 191, .int x1, .int x2, .int x3, .int x4] (mk c S) (some (.int z.1)) (mk c z.2) := by
  refine Cl.of (Nat.le_refl _) (Nat.le_refl _) (by decide +kernel) (Nat.le_of_ble_eq_true rfl) ?_
  unfold f_M_shelf at H
  generalize hN (mk c S) = n0
  generalize hZ (mk c S) = z0
  show J w (d + 4) m_M_shelf (n0, z0, some (.int z.1), mk c z.2) 0 [some (.ref 191), some (.int x1), some (.int x2), some (.int x3), some (.int x4)] [] (mk c S)
  refine J.run b_M_shelf_0_3 k_M_shelf_0_3 rfl (show J w (d + 4) m_M_shelf (n0, z0, some (.int z.1), mk c z.2) 3 [some (.ref 191), some (.int x1), some (.int x2), some (.int x3), some (.int x4)] [.int (3 : Int32), .int (0 : Int32), .int x1] (mk c S) from ?_)
  obtain ⟨r1, S2, h3, H⟩ := bd_e H
  refine J.callS (y := m_M_in) (av := [.int x1, .int (0 : Int32), .int (3 : Int32)]) (rest := []) l_M_105 d_M_shelf_3 (c_M_in w (d + 2) c  S x1 (0 : Int32) (3 : Int32) h3) rfl (Nat.le_of_ble_eq_true rfl) ⟨Nat.le_refl _, Nat.le_refl _⟩ (show J w (d + 4) m_M_shelf (n0, z0, some (.int z.1), mk c z.2) 6 [some (.ref 191), some (.int x1), some (.int x2), some (.int x3), some (.int x4)] [.int r1] (mk c S2) from ?_)
  refine J.zeq (tgt := 49) d_M_shelf_6 rfl (fun q4 => ?_) (fun q4 => ?_)
  · have H := ite_t H q4
    refine J.run b_M_shelf_49_1 k_M_shelf_49_1 rfl (show J w (d + 4) m_M_shelf (n0, z0, some (.int z.1), mk c z.2) 50 [some (.ref 191), some (.int x1), some (.int x2), some (.int x3), some (.int x4)] [.int (-1 : Int32)] (mk c S2) from ?_)
    obtain rfl := some_e H
    exact J.iret d_M_shelf_50 rfl rfl
  · have H := ite_f H q4
    refine J.run b_M_shelf_9_3 k_M_shelf_9_3 rfl (show J w (d + 4) m_M_shelf (n0, z0, some (.int z.1), mk c z.2) 12 [some (.ref 191), some (.int x1), some (.int x2), some (.int x3), some (.int x4)] [.int (2 : Int32), .int (0 : Int32), .int x2] (mk c S2) from ?_)
    obtain ⟨r5, S6, h7, H⟩ := bd_e H
    refine J.callS (y := m_M_in) (av := [.int x2, .int (0 : Int32), .int (2 : Int32)]) (rest := []) l_M_105 d_M_shelf_12 (c_M_in w (d + 2) c  S2 x2 (0 : Int32) (2 : Int32) h7) rfl (Nat.le_of_ble_eq_true rfl) ⟨Nat.le_refl _, Nat.le_refl _⟩ (show J w (d + 4) m_M_shelf (n0, z0, some (.int z.1), mk c z.2) 15 [some (.ref 191), some (.int x1), some (.int x2), some (.int x3), some (.int x4)] [.int r5] (mk c S6) from ?_)
    refine J.zeq (tgt := 49) d_M_shelf_15 rfl (fun q8 => ?_) (fun q8 => ?_)
    · have H := ite_t H q8
      refine J.run b_M_shelf_49_1 k_M_shelf_49_1 rfl (show J w (d + 4) m_M_shelf (n0, z0, some (.int z.1), mk c z.2) 50 [some (.ref 191), some (.int x1), some (.int x2), some (.int x3), some (.int x4)] [.int (-1 : Int32)] (mk c S6) from ?_)
      obtain rfl := some_e H
      exact J.iret d_M_shelf_50 rfl rfl
    · have H := ite_f H q8
      refine J.run b_M_shelf_18_2 k_M_shelf_18_2 rfl (show J w (d + 4) m_M_shelf (n0, z0, some (.int z.1), mk c z.2) 20 [some (.ref 191), some (.int x1), some (.int x2), some (.int x3), some (.int x4)] [.int (1 : Int32), .int x2] (mk c S6) from ?_)
      refine J.cne (tgt := 30) d_M_shelf_20 rfl (fun q9 => ?_) (fun q9 => ?_)
      · have H := ite_f H q9
        refine J.run b_M_shelf_30_1 k_M_shelf_30_1 rfl (show J w (d + 4) m_M_shelf (n0, z0, some (.int z.1), mk c z.2) 31 [some (.ref 191), some (.int x1), some (.int x2), some (.int x3), some (.int x4)] [.int x2] (mk c S6) from ?_)
        refine J.zne (tgt := 51) d_M_shelf_31 rfl (fun q10 => ?_) (fun q10 => ?_)
        · have H := ite_f H q10
          refine J.mask [true, true, true, true, true] ?_
          exact jo_M_shelf_51 w d c S6 x1 x2 x3 x4 H
        · have H := ite_t H q10
          refine J.run b_M_shelf_34_1 k_M_shelf_34_1 rfl (show J w (d + 4) m_M_shelf (n0, z0, some (.int z.1), mk c z.2) 35 [some (.ref 191), some (.int x1), some (.int x2), some (.int x3), some (.int x4)] [.int x3] (mk c S6) from ?_)
          obtain ⟨r34, S35, h36, H⟩ := bd_e H
          refine J.callS (y := m_M_isIndex) (av := [.int x3]) (rest := []) l_M_151 d_M_shelf_35 (c_M_isIndex w (d + 1) c  S6 x3 h36) rfl (Nat.le_of_ble_eq_true rfl) ⟨Nat.le_refl _, Nat.le_refl _⟩ (show J w (d + 4) m_M_shelf (n0, z0, some (.int z.1), mk c z.2) 38 [some (.ref 191), some (.int x1), some (.int x2), some (.int x3), some (.int x4)] [.int r34] (mk c S35) from ?_)
          refine J.zeq (tgt := 49) d_M_shelf_38 rfl (fun q37 => ?_) (fun q37 => ?_)
          · have H := ite_t H q37
            refine J.run b_M_shelf_49_1 k_M_shelf_49_1 rfl (show J w (d + 4) m_M_shelf (n0, z0, some (.int z.1), mk c z.2) 50 [some (.ref 191), some (.int x1), some (.int x2), some (.int x3), some (.int x4)] [.int (-1 : Int32)] (mk c S35) from ?_)
            obtain rfl := some_e H
            exact J.iret d_M_shelf_50 rfl rfl
          · have H := ite_f H q37
            refine J.run b_M_shelf_41_1 k_M_shelf_41_1 rfl (show J w (d + 4) m_M_shelf (n0, z0, some (.int z.1), mk c z.2) 43 [some (.ref 191), some (.int x1), some (.int x2), some (.int x3), some (.int x4)] [.int x4] (mk c S35) from ?_)
            obtain ⟨r38, S39, h40, H⟩ := bd_e H
            refine J.callS (y := m_M_isIndex) (av := [.int x4]) (rest := []) l_M_151 d_M_shelf_43 (c_M_isIndex w (d + 1) c  S35 x4 h40) rfl (Nat.le_of_ble_eq_true rfl) ⟨Nat.le_refl _, Nat.le_refl _⟩ (show J w (d + 4) m_M_shelf (n0, z0, some (.int z.1), mk c z.2) 46 [some (.ref 191), some (.int x1), some (.int x2), some (.int x3), some (.int x4)] [.int r38] (mk c S39) from ?_)
            refine J.zne (tgt := 51) d_M_shelf_46 rfl (fun q41 => ?_) (fun q41 => ?_)
            · have H := ite_f H q41
              refine J.mask [true, true, true, true, true] ?_
              exact jo_M_shelf_51 w d c S39 x1 x2 x3 x4 H
            · have H := ite_t H q41
              refine J.run b_M_shelf_49_1 k_M_shelf_49_1 rfl (show J w (d + 4) m_M_shelf (n0, z0, some (.int z.1), mk c z.2) 50 [some (.ref 191), some (.int x1), some (.int x2), some (.int x3), some (.int x4)] [.int (-1 : Int32)] (mk c S39) from ?_)
              obtain rfl := some_e H
              exact J.iret d_M_shelf_50 rfl rfl
      · have H := ite_t H q9
        refine J.run b_M_shelf_23_1 k_M_shelf_23_1 rfl (show J w (d + 4) m_M_shelf (n0, z0, some (.int z.1), mk c z.2) 24 [some (.ref 191), some (.int x1), some (.int x2), some (.int x3), some (.int x4)] [.int x3] (mk c S6) from ?_)
        obtain ⟨r42, S43, h44, H⟩ := bd_e H
        refine J.callS (y := m_M_isSheet) (av := [.int x3]) (rest := []) l_M_321 d_M_shelf_24 (c_M_isSheet w (d + 1) c  S6 x3 h44) rfl (Nat.le_of_ble_eq_true rfl) ⟨Nat.le_refl _, Nat.le_refl _⟩ (show J w (d + 4) m_M_shelf (n0, z0, some (.int z.1), mk c z.2) 27 [some (.ref 191), some (.int x1), some (.int x2), some (.int x3), some (.int x4)] [.int r42] (mk c S43) from ?_)
        refine J.zeq (tgt := 49) d_M_shelf_27 rfl (fun q45 => ?_) (fun q45 => ?_)
        · have H := ite_t H q45
          refine J.run b_M_shelf_49_1 k_M_shelf_49_1 rfl (show J w (d + 4) m_M_shelf (n0, z0, some (.int z.1), mk c z.2) 50 [some (.ref 191), some (.int x1), some (.int x2), some (.int x3), some (.int x4)] [.int (-1 : Int32)] (mk c S43) from ?_)
          obtain rfl := some_e H
          exact J.iret d_M_shelf_50 rfl rfl
        · have H := ite_f H q45
          refine J.run b_M_shelf_30_1 k_M_shelf_30_1 rfl (show J w (d + 4) m_M_shelf (n0, z0, some (.int z.1), mk c z.2) 31 [some (.ref 191), some (.int x1), some (.int x2), some (.int x3), some (.int x4)] [.int x2] (mk c S43) from ?_)
          refine J.zne (tgt := 51) d_M_shelf_31 rfl (fun q46 => ?_) (fun q46 => ?_)
          · have H := ite_f H q46
            refine J.mask [true, true, true, true, true] ?_
            exact jo_M_shelf_51 w d c S43 x1 x2 x3 x4 H
          · have H := ite_t H q46
            refine J.run b_M_shelf_34_1 k_M_shelf_34_1 rfl (show J w (d + 4) m_M_shelf (n0, z0, some (.int z.1), mk c z.2) 35 [some (.ref 191), some (.int x1), some (.int x2), some (.int x3), some (.int x4)] [.int x3] (mk c S43) from ?_)
            obtain ⟨r47, S48, h49, H⟩ := bd_e H
            refine J.callS (y := m_M_isIndex) (av := [.int x3]) (rest := []) l_M_151 d_M_shelf_35 (c_M_isIndex w (d + 1) c  S43 x3 h49) rfl (Nat.le_of_ble_eq_true rfl) ⟨Nat.le_refl _, Nat.le_refl _⟩ (show J w (d + 4) m_M_shelf (n0, z0, some (.int z.1), mk c z.2) 38 [some (.ref 191), some (.int x1), some (.int x2), some (.int x3), some (.int x4)] [.int r47] (mk c S48) from ?_)
            refine J.zeq (tgt := 49) d_M_shelf_38 rfl (fun q50 => ?_) (fun q50 => ?_)
            · have H := ite_t H q50
              refine J.run b_M_shelf_49_1 k_M_shelf_49_1 rfl (show J w (d + 4) m_M_shelf (n0, z0, some (.int z.1), mk c z.2) 50 [some (.ref 191), some (.int x1), some (.int x2), some (.int x3), some (.int x4)] [.int (-1 : Int32)] (mk c S48) from ?_)
              obtain rfl := some_e H
              exact J.iret d_M_shelf_50 rfl rfl
            · have H := ite_f H q50
              refine J.run b_M_shelf_41_1 k_M_shelf_41_1 rfl (show J w (d + 4) m_M_shelf (n0, z0, some (.int z.1), mk c z.2) 43 [some (.ref 191), some (.int x1), some (.int x2), some (.int x3), some (.int x4)] [.int x4] (mk c S48) from ?_)
              obtain ⟨r51, S52, h53, H⟩ := bd_e H
              refine J.callS (y := m_M_isIndex) (av := [.int x4]) (rest := []) l_M_151 d_M_shelf_43 (c_M_isIndex w (d + 1) c  S48 x4 h53) rfl (Nat.le_of_ble_eq_true rfl) ⟨Nat.le_refl _, Nat.le_refl _⟩ (show J w (d + 4) m_M_shelf (n0, z0, some (.int z.1), mk c z.2) 46 [some (.ref 191), some (.int x1), some (.int x2), some (.int x3), some (.int x4)] [.int r51] (mk c S52) from ?_)
              refine J.zne (tgt := 51) d_M_shelf_46 rfl (fun q54 => ?_) (fun q54 => ?_)
              · have H := ite_f H q54
                refine J.mask [true, true, true, true, true] ?_
                exact jo_M_shelf_51 w d c S52 x1 x2 x3 x4 H
              · have H := ite_t H q54
                refine J.run b_M_shelf_49_1 k_M_shelf_49_1 rfl (show J w (d + 4) m_M_shelf (n0, z0, some (.int z.1), mk c z.2) 50 [some (.ref 191), some (.int x1), some (.int x2), some (.int x3), some (.int x4)] [.int (-1 : Int32)] (mk c S52) from ?_)
                obtain rfl := some_e H
                exact J.iret d_M_shelf_50 rfl rfl
def b_M_onShelf_0_5 : List Ins := [(.aload_n 0, 0, 0, 0), (.getfield 93, 11, 27, 2), (.iload_n 1, 0, 0, 0), (.iaload, 0, 0, 0), (.iconst (1), 0, 0, 0)]
theorem k_M_onShelf_0_5 : bok m_M_onShelf 0 b_M_onShelf_0_5 = true := by decide +kernel
def b_M_onShelf_39_4 : List Ins := [(.aload_n 0, 0, 0, 0), (.getfield 93, 11, 27, 2), (.iload_n 1, 0, 0, 0), (.iaload, 0, 0, 0)]
theorem k_M_onShelf_39_4 : bok m_M_onShelf 39 b_M_onShelf_39_4 = true := by decide +kernel
def b_M_onShelf_10_13 : List Ins := [(.aload_n 0, 0, 0, 0), (.aload_n 0, 0, 0, 0), (.getfield 96, 11, 28, 2), (.iload_n 1, 0, 0, 0), (.iaload, 0, 0, 0), (.bipush (40), 0, 0, 0), (.idiv, 0, 0, 0), (.aload_n 0, 0, 0, 0), (.getfield 96, 11, 28, 2), (.iload_n 1, 0, 0, 0), (.iaload, 0, 0, 0), (.bipush (40), 0, 0, 0), (.irem, 0, 0, 0)]
theorem k_M_onShelf_10_13 : bok m_M_onShelf 10 b_M_onShelf_10_13 = true := by decide +kernel
def b_M_onShelf_35_1 : List Ins := [(.iconst (0), 0, 0, 0)]
theorem k_M_onShelf_35_1 : bok m_M_onShelf 35 b_M_onShelf_35_1 = true := by decide +kernel
theorem d_M_onShelf_7 : decode m_M_onShelf.2.1 7 = .ok (.if_icmp .ne (32), 3) := by decide +kernel
theorem d_M_onShelf_45 : decode m_M_onShelf.2.1 45 = .ok (.ireturn, 1) := by decide +kernel
theorem d_M_onShelf_29 : decode m_M_onShelf.2.1 29 = .ok (.invokevirtual 154, 3) := by decide +kernel
theorem d_M_onShelf_32 : decode m_M_onShelf.2.1 32 = .ok (.ifCond .ne (7), 3) := by decide +kernel
theorem d_M_onShelf_36 : decode m_M_onShelf.2.1 36 = .ok (.goto (9), 3) := by decide +kernel
def f_M_onShelf  (S : hs) (x1 : Int32) : Option (Int32 × hs) := ck (inb x1 4) ((if (gI S 209 (x1).toNatClampNeg) = (1 : Int32) then bd (f_M_kindOf  S ((gI S 210 (x1).toNatClampNeg) / (40 : Int32)) ((gI S 210 (x1).toNatClampNeg) - (gI S 210 (x1).toNatClampNeg) / (40 : Int32) * (40 : Int32))) fun r3 S4 => (if r3 = 0 then some ((0 : Int32), S4) else some ((gI S4 209 (x1).toNatClampNeg), S4)) else some ((gI S 209 (x1).toNatClampNeg), S)))
theorem c_M_onShelf (w : Wd) (d : Nat) (c : cx)   (S : hs) (x1 : Int32)  {z : Int32 × hs} (H : f_M_onShelf S x1 = some z) : Cl w (d + 4) m_M_onShelf [.ref 191, .int x1] (mk c S) (some (.int z.1)) (mk c z.2) := by
  refine Cl.of (Nat.le_refl _) (Nat.le_refl _) (by decide +kernel) (Nat.le_of_ble_eq_true rfl) ?_
  unfold f_M_onShelf at H
  generalize hN (mk c S) = n0
  generalize hZ (mk c S) = z0
  show J w (d + 4) m_M_onShelf (n0, z0, some (.int z.1), mk c z.2) 0 [some (.ref 191), some (.int x1)] [] (mk c S)
  obtain ⟨g1, H⟩ := ck_e H
  refine J.run b_M_onShelf_0_5 k_M_onShelf_0_5 rfl (And.intro (okO_st (S := S) rfl) (And.intro (okA_st (S := S) (n := 4) rfl g1) (show J w (d + 4) m_M_onShelf (n0, z0, some (.int z.1), mk c z.2) 7 [some (.ref 191), some (.int x1)] [.int (1 : Int32), .int (gI S 209 (x1).toNatClampNeg)] (mk c S) from ?_)))
  refine J.cne (tgt := 39) d_M_onShelf_7 rfl (fun q2 => ?_) (fun q2 => ?_)
  · have H := ite_f H q2
    refine J.run b_M_onShelf_39_4 k_M_onShelf_39_4 rfl (And.intro (okO_st (S := S) rfl) (And.intro (okA_st (S := S) (n := 4) rfl g1) (show J w (d + 4) m_M_onShelf (n0, z0, some (.int z.1), mk c z.2) 45 [some (.ref 191), some (.int x1)] [.int (gI S 209 (x1).toNatClampNeg)] (mk c S) from ?_)))
    obtain rfl := some_e H
    exact J.iret d_M_onShelf_45 rfl rfl
  · have H := ite_t H q2
    refine J.run b_M_onShelf_10_13 k_M_onShelf_10_13 rfl (And.intro (okO_st (S := S) rfl) (And.intro (okA_st (S := S) (n := 4) rfl g1) (And.intro (by decide) (And.intro (okO_st (S := S) rfl) (And.intro (okA_st (S := S) (n := 4) rfl g1) (And.intro (by decide) (show J w (d + 4) m_M_onShelf (n0, z0, some (.int z.1), mk c z.2) 29 [some (.ref 191), some (.int x1)] [.int ((gI S 210 (x1).toNatClampNeg) - (gI S 210 (x1).toNatClampNeg) / (40 : Int32) * (40 : Int32)), .int ((gI S 210 (x1).toNatClampNeg) / (40 : Int32)), .ref 191] (mk c S) from ?_)))))))
    obtain ⟨r3, S4, h5, H⟩ := bd_e H
    refine J.callV (y := m_M_kindOf) (av := [.int ((gI S 210 (x1).toNatClampNeg) / (40 : Int32)), .int ((gI S 210 (x1).toNatClampNeg) - (gI S 210 (x1).toNatClampNeg) / (40 : Int32) * (40 : Int32))]) (rest := []) (q := 191) l_M_154 d_M_onShelf_29 (isC_st rfl rfl) (c_M_kindOf w (d + 0) c  S ((gI S 210 (x1).toNatClampNeg) / (40 : Int32)) ((gI S 210 (x1).toNatClampNeg) - (gI S 210 (x1).toNatClampNeg) / (40 : Int32) * (40 : Int32)) h5) rfl (Nat.le_of_ble_eq_true rfl) ⟨Nat.le_refl _, Nat.le_refl _⟩ (show J w (d + 4) m_M_onShelf (n0, z0, some (.int z.1), mk c z.2) 32 [some (.ref 191), some (.int x1)] [.int r3] (mk c S4) from ?_)
    refine J.zne (tgt := 39) d_M_onShelf_32 rfl (fun q6 => ?_) (fun q6 => ?_)
    · have H := ite_f H q6
      refine J.run b_M_onShelf_39_4 k_M_onShelf_39_4 rfl (And.intro (okO_st (S := S4) rfl) (And.intro (okA_st (S := S4) (n := 4) rfl g1) (show J w (d + 4) m_M_onShelf (n0, z0, some (.int z.1), mk c z.2) 45 [some (.ref 191), some (.int x1)] [.int (gI S4 209 (x1).toNatClampNeg)] (mk c S4) from ?_)))
      obtain rfl := some_e H
      exact J.iret d_M_onShelf_45 rfl rfl
    · have H := ite_t H q6
      refine J.run b_M_onShelf_35_1 k_M_onShelf_35_1 rfl (show J w (d + 4) m_M_onShelf (n0, z0, some (.int z.1), mk c z.2) 36 [some (.ref 191), some (.int x1)] [.int (0 : Int32)] (mk c S4) from ?_)
      refine J.goto (tgt := 45) d_M_onShelf_36 rfl ?_
      obtain rfl := some_e H
      exact J.iret d_M_onShelf_45 rfl rfl
def b_M_taken_0_3 : List Ins := [(.iload_n 1, 0, 0, 0), (.iconst (0), 0, 0, 0), (.iconst (3), 0, 0, 0)]
theorem k_M_taken_0_3 : bok m_M_taken 0 b_M_taken_0_3 = true := by decide +kernel
def b_M_taken_29_1 : List Ins := [(.iconst (-1), 0, 0, 0)]
theorem k_M_taken_29_1 : bok m_M_taken 29 b_M_taken_29_1 = true := by decide +kernel
def b_M_taken_9_3 : List Ins := [(.iload_n 2, 0, 0, 0), (.iconst (0), 0, 0, 0), (.iconst (5), 0, 0, 0)]
theorem k_M_taken_9_3 : bok m_M_taken 9 b_M_taken_9_3 = true := by decide +kernel
def b_M_taken_31_2 : List Ins := [(.aload_n 0, 0, 0, 0), (.iload_n 1, 0, 0, 0)]
theorem k_M_taken_31_2 : bok m_M_taken 31 b_M_taken_31_2 = true := by decide +kernel
def b_M_taken_36_2 : List Ins := [(.istore_n 3, 0, 0, 0), (.iload_n 3, 0, 0, 0)]
theorem k_M_taken_36_2 : bok m_M_taken 36 b_M_taken_36_2 = true := by decide +kernel
def b_M_taken_44_2 : List Ins := [(.iload_n 3, 0, 0, 0), (.iconst (2), 0, 0, 0)]
theorem k_M_taken_44_2 : bok m_M_taken 44 b_M_taken_44_2 = true := by decide +kernel
def b_M_taken_74_13 : List Ins := [(.aload_n 0, 0, 0, 0), (.aload_n 0, 0, 0, 0), (.getfield 96, 11, 28, 2), (.iload_n 1, 0, 0, 0), (.iaload, 0, 0, 0), (.bipush (40), 0, 0, 0), (.idiv, 0, 0, 0), (.aload_n 0, 0, 0, 0), (.getfield 96, 11, 28, 2), (.iload_n 1, 0, 0, 0), (.iaload, 0, 0, 0), (.bipush (40), 0, 0, 0), (.irem, 0, 0, 0)]
theorem k_M_taken_74_13 : bok m_M_taken 74 b_M_taken_74_13 = true := by decide +kernel
def b_M_taken_96_1 : List Ins := [(.iload_n 2, 0, 0, 0)]
theorem k_M_taken_96_1 : bok m_M_taken 96 b_M_taken_96_1 = true := by decide +kernel
def b_M_taken_112_1 : List Ins := [(.bipush (-13), 0, 0, 0)]
theorem k_M_taken_112_1 : bok m_M_taken 112 b_M_taken_112_1 = true := by decide +kernel
def b_M_taken_103_4 : List Ins := [(.aload_n 0, 0, 0, 0), (.getfield 96, 11, 28, 2), (.iload_n 1, 0, 0, 0), (.iaload, 0, 0, 0)]
theorem k_M_taken_103_4 : bok m_M_taken 103 b_M_taken_103_4 = true := by decide +kernel
def b_M_taken_49_7 : List Ins := [(.iload_n 2, 0, 0, 0), (.bipush (10), 0, 0, 0), (.aload_n 0, 0, 0, 0), (.getfield 96, 11, 28, 2), (.iload_n 1, 0, 0, 0), (.iaload, 0, 0, 0), (.iadd, 0, 0, 0)]
theorem k_M_taken_49_7 : bok m_M_taken 49 b_M_taken_49_7 = true := by decide +kernel
def b_M_taken_71_1 : List Ins := [(.bipush (-13), 0, 0, 0)]
theorem k_M_taken_71_1 : bok m_M_taken 71 b_M_taken_71_1 = true := by decide +kernel
def b_M_taken_62_4 : List Ins := [(.aload_n 0, 0, 0, 0), (.getfield 99, 11, 29, 2), (.iload_n 1, 0, 0, 0), (.iaload, 0, 0, 0)]
theorem k_M_taken_62_4 : bok m_M_taken 62 b_M_taken_62_4 = true := by decide +kernel
def b_M_taken_41_1 : List Ins := [(.bipush (-11), 0, 0, 0)]
theorem k_M_taken_41_1 : bok m_M_taken 41 b_M_taken_41_1 = true := by decide +kernel
def b_M_taken_18_3 : List Ins := [(.iload_n 2, 0, 0, 0), (.bipush (10), 0, 0, 0), (.bipush (14), 0, 0, 0)]
theorem k_M_taken_18_3 : bok m_M_taken 18 b_M_taken_18_3 = true := by decide +kernel
theorem d_M_taken_3 : decode m_M_taken.2.1 3 = .ok (.invokestatic 105, 3) := by decide +kernel
theorem d_M_taken_6 : decode m_M_taken.2.1 6 = .ok (.ifCond .eq (23), 3) := by decide +kernel
theorem d_M_taken_30 : decode m_M_taken.2.1 30 = .ok (.ireturn, 1) := by decide +kernel
theorem d_M_taken_12 : decode m_M_taken.2.1 12 = .ok (.invokestatic 105, 3) := by decide +kernel
theorem d_M_taken_15 : decode m_M_taken.2.1 15 = .ok (.ifCond .ne (16), 3) := by decide +kernel
theorem d_M_taken_33 : decode m_M_taken.2.1 33 = .ok (.invokevirtual 330, 3) := by decide +kernel
theorem d_M_taken_38 : decode m_M_taken.2.1 38 = .ok (.ifCond .ne (6), 3) := by decide +kernel
theorem d_M_taken_46 : decode m_M_taken.2.1 46 = .ok (.if_icmp .ne (28), 3) := by decide +kernel
theorem d_M_taken_93 : decode m_M_taken.2.1 93 = .ok (.invokevirtual 154, 3) := by decide +kernel
theorem d_M_taken_97 : decode m_M_taken.2.1 97 = .ok (.invokestatic 168, 3) := by decide +kernel
theorem d_M_taken_100 : decode m_M_taken.2.1 100 = .ok (.ifCond .eq (12), 3) := by decide +kernel
theorem d_M_taken_114 : decode m_M_taken.2.1 114 = .ok (.ireturn, 1) := by decide +kernel
theorem d_M_taken_109 : decode m_M_taken.2.1 109 = .ok (.goto (5), 3) := by decide +kernel
theorem d_M_taken_59 : decode m_M_taken.2.1 59 = .ok (.if_icmp .ne (12), 3) := by decide +kernel
theorem d_M_taken_73 : decode m_M_taken.2.1 73 = .ok (.ireturn, 1) := by decide +kernel
theorem d_M_taken_68 : decode m_M_taken.2.1 68 = .ok (.goto (5), 3) := by decide +kernel
theorem d_M_taken_43 : decode m_M_taken.2.1 43 = .ok (.ireturn, 1) := by decide +kernel
theorem d_M_taken_23 : decode m_M_taken.2.1 23 = .ok (.invokestatic 105, 3) := by decide +kernel
theorem d_M_taken_26 : decode m_M_taken.2.1 26 = .ok (.ifCond .ne (5), 3) := by decide +kernel
def f_M_taken  (S : hs) (x1 : Int32) (x2 : Int32) : Option (Int32 × hs) := bd (f_M_in  S x1 (0 : Int32) (3 : Int32)) fun r1 S2 => (if r1 = 0 then some ((-1 : Int32), S2) else bd (f_M_in  S2 x2 (0 : Int32) (5 : Int32)) fun r5 S6 => (if r5 = 0 then bd (f_M_in  S6 x2 (10 : Int32) (14 : Int32)) fun r24 S25 => (if r24 = 0 then some ((-1 : Int32), S25) else bd (f_M_onShelf  S25 x1) fun r28 S29 => (if r28 = 0 then some ((-11 : Int32), S29) else (if r28 = (2 : Int32) then ck (inb x1 4) ((if x2 = ((10 : Int32) + (gI S29 210 (x1).toNatClampNeg)) then some ((gI S29 211 (x1).toNatClampNeg), S29) else some ((-13 : Int32), S29))) else ck (inb x1 4) (bd (f_M_kindOf  S29 ((gI S29 210 (x1).toNatClampNeg) / (40 : Int32)) ((gI S29 210 (x1).toNatClampNeg) - (gI S29 210 (x1).toNatClampNeg) / (40 : Int32) * (40 : Int32))) fun r34 S35 => bd (f_M_isUnder  S35 r34 x2) fun r37 S38 => (if r37 = 0 then some ((-13 : Int32), S38) else some ((gI S38 210 (x1).toNatClampNeg), S38)))))) else bd (f_M_onShelf  S6 x1) fun r9 S10 => (if r9 = 0 then some ((-11 : Int32), S10) else (if r9 = (2 : Int32) then ck (inb x1 4) ((if x2 = ((10 : Int32) + (gI S10 210 (x1).toNatClampNeg)) then some ((gI S10 211 (x1).toNatClampNeg), S10) else some ((-13 : Int32), S10))) else ck (inb x1 4) (bd (f_M_kindOf  S10 ((gI S10 210 (x1).toNatClampNeg) / (40 : Int32)) ((gI S10 210 (x1).toNatClampNeg) - (gI S10 210 (x1).toNatClampNeg) / (40 : Int32) * (40 : Int32))) fun r15 S16 => bd (f_M_isUnder  S16 r15 x2) fun r18 S19 => (if r18 = 0 then some ((-13 : Int32), S19) else some ((gI S19 210 (x1).toNatClampNeg), S19)))))))
theorem c_M_taken (w : Wd) (d : Nat) (c : cx)   (S : hs) (x1 : Int32) (x2 : Int32)  {z : Int32 × hs} (H : f_M_taken S x1 x2 = some z) : Cl w (d + 5) m_M_taken [.ref 191, .int x1, .int x2] (mk c S) (some (.int z.1)) (mk c z.2) := by
  refine Cl.of (Nat.le_refl _) (Nat.le_refl _) (by decide +kernel) (Nat.le_of_ble_eq_true rfl) ?_
  unfold f_M_taken at H
  generalize hN (mk c S) = n0
  generalize hZ (mk c S) = z0
  show J w (d + 5) m_M_taken (n0, z0, some (.int z.1), mk c z.2) 0 [some (.ref 191), some (.int x1), some (.int x2), none] [] (mk c S)
  refine J.run b_M_taken_0_3 k_M_taken_0_3 rfl (show J w (d + 5) m_M_taken (n0, z0, some (.int z.1), mk c z.2) 3 [some (.ref 191), some (.int x1), some (.int x2), none] [.int (3 : Int32), .int (0 : Int32), .int x1] (mk c S) from ?_)
  obtain ⟨r1, S2, h3, H⟩ := bd_e H
  refine J.callS (y := m_M_in) (av := [.int x1, .int (0 : Int32), .int (3 : Int32)]) (rest := []) l_M_105 d_M_taken_3 (c_M_in w (d + 3) c  S x1 (0 : Int32) (3 : Int32) h3) rfl (Nat.le_of_ble_eq_true rfl) ⟨Nat.le_refl _, Nat.le_refl _⟩ (show J w (d + 5) m_M_taken (n0, z0, some (.int z.1), mk c z.2) 6 [some (.ref 191), some (.int x1), some (.int x2), none] [.int r1] (mk c S2) from ?_)
  refine J.zeq (tgt := 29) d_M_taken_6 rfl (fun q4 => ?_) (fun q4 => ?_)
  · have H := ite_t H q4
    refine J.run b_M_taken_29_1 k_M_taken_29_1 rfl (show J w (d + 5) m_M_taken (n0, z0, some (.int z.1), mk c z.2) 30 [some (.ref 191), some (.int x1), some (.int x2), none] [.int (-1 : Int32)] (mk c S2) from ?_)
    obtain rfl := some_e H
    exact J.iret d_M_taken_30 rfl rfl
  · have H := ite_f H q4
    refine J.run b_M_taken_9_3 k_M_taken_9_3 rfl (show J w (d + 5) m_M_taken (n0, z0, some (.int z.1), mk c z.2) 12 [some (.ref 191), some (.int x1), some (.int x2), none] [.int (5 : Int32), .int (0 : Int32), .int x2] (mk c S2) from ?_)
    obtain ⟨r5, S6, h7, H⟩ := bd_e H
    refine J.callS (y := m_M_in) (av := [.int x2, .int (0 : Int32), .int (5 : Int32)]) (rest := []) l_M_105 d_M_taken_12 (c_M_in w (d + 3) c  S2 x2 (0 : Int32) (5 : Int32) h7) rfl (Nat.le_of_ble_eq_true rfl) ⟨Nat.le_refl _, Nat.le_refl _⟩ (show J w (d + 5) m_M_taken (n0, z0, some (.int z.1), mk c z.2) 15 [some (.ref 191), some (.int x1), some (.int x2), none] [.int r5] (mk c S6) from ?_)
    refine J.zne (tgt := 31) d_M_taken_15 rfl (fun q8 => ?_) (fun q8 => ?_)
    · have H := ite_f H q8
      refine J.run b_M_taken_31_2 k_M_taken_31_2 rfl (show J w (d + 5) m_M_taken (n0, z0, some (.int z.1), mk c z.2) 33 [some (.ref 191), some (.int x1), some (.int x2), none] [.int x1, .ref 191] (mk c S6) from ?_)
      obtain ⟨r9, S10, h11, H⟩ := bd_e H
      refine J.callV (y := m_M_onShelf) (av := [.int x1]) (rest := []) (q := 191) l_M_330 d_M_taken_33 (isC_st rfl rfl) (c_M_onShelf w (d + 0) c  S6 x1 h11) rfl (Nat.le_of_ble_eq_true rfl) ⟨Nat.le_refl _, Nat.le_refl _⟩ (show J w (d + 5) m_M_taken (n0, z0, some (.int z.1), mk c z.2) 36 [some (.ref 191), some (.int x1), some (.int x2), none] [.int r9] (mk c S10) from ?_)
      refine J.run b_M_taken_36_2 k_M_taken_36_2 rfl (show J w (d + 5) m_M_taken (n0, z0, some (.int z.1), mk c z.2) 38 [some (.ref 191), some (.int x1), some (.int x2), some (.int r9)] [.int r9] (mk c S10) from ?_)
      refine J.zne (tgt := 44) d_M_taken_38 rfl (fun q12 => ?_) (fun q12 => ?_)
      · have H := ite_f H q12
        refine J.run b_M_taken_44_2 k_M_taken_44_2 rfl (show J w (d + 5) m_M_taken (n0, z0, some (.int z.1), mk c z.2) 46 [some (.ref 191), some (.int x1), some (.int x2), some (.int r9)] [.int (2 : Int32), .int r9] (mk c S10) from ?_)
        refine J.cne (tgt := 74) d_M_taken_46 rfl (fun q13 => ?_) (fun q13 => ?_)
        · have H := ite_f H q13
          obtain ⟨g14, H⟩ := ck_e H
          refine J.run b_M_taken_74_13 k_M_taken_74_13 rfl (And.intro (okO_st (S := S10) rfl) (And.intro (okA_st (S := S10) (n := 4) rfl g14) (And.intro (by decide) (And.intro (okO_st (S := S10) rfl) (And.intro (okA_st (S := S10) (n := 4) rfl g14) (And.intro (by decide) (show J w (d + 5) m_M_taken (n0, z0, some (.int z.1), mk c z.2) 93 [some (.ref 191), some (.int x1), some (.int x2), some (.int r9)] [.int ((gI S10 210 (x1).toNatClampNeg) - (gI S10 210 (x1).toNatClampNeg) / (40 : Int32) * (40 : Int32)), .int ((gI S10 210 (x1).toNatClampNeg) / (40 : Int32)), .ref 191] (mk c S10) from ?_)))))))
          obtain ⟨r15, S16, h17, H⟩ := bd_e H
          refine J.callV (y := m_M_kindOf) (av := [.int ((gI S10 210 (x1).toNatClampNeg) / (40 : Int32)), .int ((gI S10 210 (x1).toNatClampNeg) - (gI S10 210 (x1).toNatClampNeg) / (40 : Int32) * (40 : Int32))]) (rest := []) (q := 191) l_M_154 d_M_taken_93 (isC_st rfl rfl) (c_M_kindOf w (d + 1) c  S10 ((gI S10 210 (x1).toNatClampNeg) / (40 : Int32)) ((gI S10 210 (x1).toNatClampNeg) - (gI S10 210 (x1).toNatClampNeg) / (40 : Int32) * (40 : Int32)) h17) rfl (Nat.le_of_ble_eq_true rfl) ⟨Nat.le_refl _, Nat.le_refl _⟩ (show J w (d + 5) m_M_taken (n0, z0, some (.int z.1), mk c z.2) 96 [some (.ref 191), some (.int x1), some (.int x2), some (.int r9)] [.int r15] (mk c S16) from ?_)
          refine J.run b_M_taken_96_1 k_M_taken_96_1 rfl (show J w (d + 5) m_M_taken (n0, z0, some (.int z.1), mk c z.2) 97 [some (.ref 191), some (.int x1), some (.int x2), some (.int r9)] [.int x2, .int r15] (mk c S16) from ?_)
          obtain ⟨r18, S19, h20, H⟩ := bd_e H
          refine J.callS (y := m_M_isUnder) (av := [.int r15, .int x2]) (rest := []) l_M_168 d_M_taken_97 (c_M_isUnder w (d + 2) c  S16 r15 x2 h20) rfl (Nat.le_of_ble_eq_true rfl) ⟨Nat.le_refl _, Nat.le_refl _⟩ (show J w (d + 5) m_M_taken (n0, z0, some (.int z.1), mk c z.2) 100 [some (.ref 191), some (.int x1), some (.int x2), some (.int r9)] [.int r18] (mk c S19) from ?_)
          refine J.zeq (tgt := 112) d_M_taken_100 rfl (fun q21 => ?_) (fun q21 => ?_)
          · have H := ite_t H q21
            refine J.run b_M_taken_112_1 k_M_taken_112_1 rfl (show J w (d + 5) m_M_taken (n0, z0, some (.int z.1), mk c z.2) 114 [some (.ref 191), some (.int x1), some (.int x2), some (.int r9)] [.int (-13 : Int32)] (mk c S19) from ?_)
            obtain rfl := some_e H
            exact J.iret d_M_taken_114 rfl rfl
          · have H := ite_f H q21
            refine J.run b_M_taken_103_4 k_M_taken_103_4 rfl (And.intro (okO_st (S := S19) rfl) (And.intro (okA_st (S := S19) (n := 4) rfl g14) (show J w (d + 5) m_M_taken (n0, z0, some (.int z.1), mk c z.2) 109 [some (.ref 191), some (.int x1), some (.int x2), some (.int r9)] [.int (gI S19 210 (x1).toNatClampNeg)] (mk c S19) from ?_)))
            refine J.goto (tgt := 114) d_M_taken_109 rfl ?_
            obtain rfl := some_e H
            exact J.iret d_M_taken_114 rfl rfl
        · have H := ite_t H q13
          obtain ⟨g22, H⟩ := ck_e H
          refine J.run b_M_taken_49_7 k_M_taken_49_7 rfl (And.intro (okO_st (S := S10) rfl) (And.intro (okA_st (S := S10) (n := 4) rfl g22) (show J w (d + 5) m_M_taken (n0, z0, some (.int z.1), mk c z.2) 59 [some (.ref 191), some (.int x1), some (.int x2), some (.int r9)] [.int ((10 : Int32) + (gI S10 210 (x1).toNatClampNeg)), .int x2] (mk c S10) from ?_)))
          refine J.cne (tgt := 71) d_M_taken_59 rfl (fun q23 => ?_) (fun q23 => ?_)
          · have H := ite_f H q23
            refine J.run b_M_taken_71_1 k_M_taken_71_1 rfl (show J w (d + 5) m_M_taken (n0, z0, some (.int z.1), mk c z.2) 73 [some (.ref 191), some (.int x1), some (.int x2), some (.int r9)] [.int (-13 : Int32)] (mk c S10) from ?_)
            obtain rfl := some_e H
            exact J.iret d_M_taken_73 rfl rfl
          · have H := ite_t H q23
            refine J.run b_M_taken_62_4 k_M_taken_62_4 rfl (And.intro (okO_st (S := S10) rfl) (And.intro (okA_st (S := S10) (n := 4) rfl g22) (show J w (d + 5) m_M_taken (n0, z0, some (.int z.1), mk c z.2) 68 [some (.ref 191), some (.int x1), some (.int x2), some (.int r9)] [.int (gI S10 211 (x1).toNatClampNeg)] (mk c S10) from ?_)))
            refine J.goto (tgt := 73) d_M_taken_68 rfl ?_
            obtain rfl := some_e H
            exact J.iret d_M_taken_73 rfl rfl
      · have H := ite_t H q12
        refine J.run b_M_taken_41_1 k_M_taken_41_1 rfl (show J w (d + 5) m_M_taken (n0, z0, some (.int z.1), mk c z.2) 43 [some (.ref 191), some (.int x1), some (.int x2), some (.int r9)] [.int (-11 : Int32)] (mk c S10) from ?_)
        obtain rfl := some_e H
        exact J.iret d_M_taken_43 rfl rfl
    · have H := ite_t H q8
      refine J.run b_M_taken_18_3 k_M_taken_18_3 rfl (show J w (d + 5) m_M_taken (n0, z0, some (.int z.1), mk c z.2) 23 [some (.ref 191), some (.int x1), some (.int x2), none] [.int (14 : Int32), .int (10 : Int32), .int x2] (mk c S6) from ?_)
      obtain ⟨r24, S25, h26, H⟩ := bd_e H
      refine J.callS (y := m_M_in) (av := [.int x2, .int (10 : Int32), .int (14 : Int32)]) (rest := []) l_M_105 d_M_taken_23 (c_M_in w (d + 3) c  S6 x2 (10 : Int32) (14 : Int32) h26) rfl (Nat.le_of_ble_eq_true rfl) ⟨Nat.le_refl _, Nat.le_refl _⟩ (show J w (d + 5) m_M_taken (n0, z0, some (.int z.1), mk c z.2) 26 [some (.ref 191), some (.int x1), some (.int x2), none] [.int r24] (mk c S25) from ?_)
      refine J.zne (tgt := 31) d_M_taken_26 rfl (fun q27 => ?_) (fun q27 => ?_)
      · have H := ite_f H q27
        refine J.run b_M_taken_31_2 k_M_taken_31_2 rfl (show J w (d + 5) m_M_taken (n0, z0, some (.int z.1), mk c z.2) 33 [some (.ref 191), some (.int x1), some (.int x2), none] [.int x1, .ref 191] (mk c S25) from ?_)
        obtain ⟨r28, S29, h30, H⟩ := bd_e H
        refine J.callV (y := m_M_onShelf) (av := [.int x1]) (rest := []) (q := 191) l_M_330 d_M_taken_33 (isC_st rfl rfl) (c_M_onShelf w (d + 0) c  S25 x1 h30) rfl (Nat.le_of_ble_eq_true rfl) ⟨Nat.le_refl _, Nat.le_refl _⟩ (show J w (d + 5) m_M_taken (n0, z0, some (.int z.1), mk c z.2) 36 [some (.ref 191), some (.int x1), some (.int x2), none] [.int r28] (mk c S29) from ?_)
        refine J.run b_M_taken_36_2 k_M_taken_36_2 rfl (show J w (d + 5) m_M_taken (n0, z0, some (.int z.1), mk c z.2) 38 [some (.ref 191), some (.int x1), some (.int x2), some (.int r28)] [.int r28] (mk c S29) from ?_)
        refine J.zne (tgt := 44) d_M_taken_38 rfl (fun q31 => ?_) (fun q31 => ?_)
        · have H := ite_f H q31
          refine J.run b_M_taken_44_2 k_M_taken_44_2 rfl (show J w (d + 5) m_M_taken (n0, z0, some (.int z.1), mk c z.2) 46 [some (.ref 191), some (.int x1), some (.int x2), some (.int r28)] [.int (2 : Int32), .int r28] (mk c S29) from ?_)
          refine J.cne (tgt := 74) d_M_taken_46 rfl (fun q32 => ?_) (fun q32 => ?_)
          · have H := ite_f H q32
            obtain ⟨g33, H⟩ := ck_e H
            refine J.run b_M_taken_74_13 k_M_taken_74_13 rfl (And.intro (okO_st (S := S29) rfl) (And.intro (okA_st (S := S29) (n := 4) rfl g33) (And.intro (by decide) (And.intro (okO_st (S := S29) rfl) (And.intro (okA_st (S := S29) (n := 4) rfl g33) (And.intro (by decide) (show J w (d + 5) m_M_taken (n0, z0, some (.int z.1), mk c z.2) 93 [some (.ref 191), some (.int x1), some (.int x2), some (.int r28)] [.int ((gI S29 210 (x1).toNatClampNeg) - (gI S29 210 (x1).toNatClampNeg) / (40 : Int32) * (40 : Int32)), .int ((gI S29 210 (x1).toNatClampNeg) / (40 : Int32)), .ref 191] (mk c S29) from ?_)))))))
            obtain ⟨r34, S35, h36, H⟩ := bd_e H
            refine J.callV (y := m_M_kindOf) (av := [.int ((gI S29 210 (x1).toNatClampNeg) / (40 : Int32)), .int ((gI S29 210 (x1).toNatClampNeg) - (gI S29 210 (x1).toNatClampNeg) / (40 : Int32) * (40 : Int32))]) (rest := []) (q := 191) l_M_154 d_M_taken_93 (isC_st rfl rfl) (c_M_kindOf w (d + 1) c  S29 ((gI S29 210 (x1).toNatClampNeg) / (40 : Int32)) ((gI S29 210 (x1).toNatClampNeg) - (gI S29 210 (x1).toNatClampNeg) / (40 : Int32) * (40 : Int32)) h36) rfl (Nat.le_of_ble_eq_true rfl) ⟨Nat.le_refl _, Nat.le_refl _⟩ (show J w (d + 5) m_M_taken (n0, z0, some (.int z.1), mk c z.2) 96 [some (.ref 191), some (.int x1), some (.int x2), some (.int r28)] [.int r34] (mk c S35) from ?_)
            refine J.run b_M_taken_96_1 k_M_taken_96_1 rfl (show J w (d + 5) m_M_taken (n0, z0, some (.int z.1), mk c z.2) 97 [some (.ref 191), some (.int x1), some (.int x2), some (.int r28)] [.int x2, .int r34] (mk c S35) from ?_)
            obtain ⟨r37, S38, h39, H⟩ := bd_e H
            refine J.callS (y := m_M_isUnder) (av := [.int r34, .int x2]) (rest := []) l_M_168 d_M_taken_97 (c_M_isUnder w (d + 2) c  S35 r34 x2 h39) rfl (Nat.le_of_ble_eq_true rfl) ⟨Nat.le_refl _, Nat.le_refl _⟩ (show J w (d + 5) m_M_taken (n0, z0, some (.int z.1), mk c z.2) 100 [some (.ref 191), some (.int x1), some (.int x2), some (.int r28)] [.int r37] (mk c S38) from ?_)
            refine J.zeq (tgt := 112) d_M_taken_100 rfl (fun q40 => ?_) (fun q40 => ?_)
            · have H := ite_t H q40
              refine J.run b_M_taken_112_1 k_M_taken_112_1 rfl (show J w (d + 5) m_M_taken (n0, z0, some (.int z.1), mk c z.2) 114 [some (.ref 191), some (.int x1), some (.int x2), some (.int r28)] [.int (-13 : Int32)] (mk c S38) from ?_)
              obtain rfl := some_e H
              exact J.iret d_M_taken_114 rfl rfl
            · have H := ite_f H q40
              refine J.run b_M_taken_103_4 k_M_taken_103_4 rfl (And.intro (okO_st (S := S38) rfl) (And.intro (okA_st (S := S38) (n := 4) rfl g33) (show J w (d + 5) m_M_taken (n0, z0, some (.int z.1), mk c z.2) 109 [some (.ref 191), some (.int x1), some (.int x2), some (.int r28)] [.int (gI S38 210 (x1).toNatClampNeg)] (mk c S38) from ?_)))
              refine J.goto (tgt := 114) d_M_taken_109 rfl ?_
              obtain rfl := some_e H
              exact J.iret d_M_taken_114 rfl rfl
          · have H := ite_t H q32
            obtain ⟨g41, H⟩ := ck_e H
            refine J.run b_M_taken_49_7 k_M_taken_49_7 rfl (And.intro (okO_st (S := S29) rfl) (And.intro (okA_st (S := S29) (n := 4) rfl g41) (show J w (d + 5) m_M_taken (n0, z0, some (.int z.1), mk c z.2) 59 [some (.ref 191), some (.int x1), some (.int x2), some (.int r28)] [.int ((10 : Int32) + (gI S29 210 (x1).toNatClampNeg)), .int x2] (mk c S29) from ?_)))
            refine J.cne (tgt := 71) d_M_taken_59 rfl (fun q42 => ?_) (fun q42 => ?_)
            · have H := ite_f H q42
              refine J.run b_M_taken_71_1 k_M_taken_71_1 rfl (show J w (d + 5) m_M_taken (n0, z0, some (.int z.1), mk c z.2) 73 [some (.ref 191), some (.int x1), some (.int x2), some (.int r28)] [.int (-13 : Int32)] (mk c S29) from ?_)
              obtain rfl := some_e H
              exact J.iret d_M_taken_73 rfl rfl
            · have H := ite_t H q42
              refine J.run b_M_taken_62_4 k_M_taken_62_4 rfl (And.intro (okO_st (S := S29) rfl) (And.intro (okA_st (S := S29) (n := 4) rfl g41) (show J w (d + 5) m_M_taken (n0, z0, some (.int z.1), mk c z.2) 68 [some (.ref 191), some (.int x1), some (.int x2), some (.int r28)] [.int (gI S29 211 (x1).toNatClampNeg)] (mk c S29) from ?_)))
              refine J.goto (tgt := 73) d_M_taken_68 rfl ?_
              obtain rfl := some_e H
              exact J.iret d_M_taken_73 rfl rfl
        · have H := ite_t H q31
          refine J.run b_M_taken_41_1 k_M_taken_41_1 rfl (show J w (d + 5) m_M_taken (n0, z0, some (.int z.1), mk c z.2) 43 [some (.ref 191), some (.int x1), some (.int x2), some (.int r28)] [.int (-11 : Int32)] (mk c S29) from ?_)
          obtain rfl := some_e H
          exact J.iret d_M_taken_43 rfl rfl
      · have H := ite_t H q27
        refine J.run b_M_taken_29_1 k_M_taken_29_1 rfl (show J w (d + 5) m_M_taken (n0, z0, some (.int z.1), mk c z.2) 30 [some (.ref 191), some (.int x1), some (.int x2), none] [.int (-1 : Int32)] (mk c S25) from ?_)
        obtain rfl := some_e H
        exact J.iret d_M_taken_30 rfl rfl
def b_M_trace_0_6 : List Ins := [(.iload_n 1, 0, 0, 0), (.iconst (0), 0, 0, 0), (.aload_n 0, 0, 0, 0), (.getfield 333, 11, 31, 0), (.iconst (1), 0, 0, 0), (.isub, 0, 0, 0)]
theorem k_M_trace_0_6 : bok m_M_trace 0 b_M_trace_0_6 = true := by decide +kernel
def b_M_trace_23_1 : List Ins := [(.bipush (-3), 0, 0, 0)]
theorem k_M_trace_23_1 : bok m_M_trace 23 b_M_trace_23_1 = true := by decide +kernel
def b_M_trace_14_4 : List Ins := [(.aload_n 0, 0, 0, 0), (.getfield 102, 11, 30, 2), (.iload_n 1, 0, 0, 0), (.iaload, 0, 0, 0)]
theorem k_M_trace_14_4 : bok m_M_trace 14 b_M_trace_14_4 = true := by decide +kernel
theorem d_M_trace_8 : decode m_M_trace.2.1 8 = .ok (.invokestatic 105, 3) := by decide +kernel
theorem d_M_trace_11 : decode m_M_trace.2.1 11 = .ok (.ifCond .eq (12), 3) := by decide +kernel
theorem d_M_trace_25 : decode m_M_trace.2.1 25 = .ok (.ireturn, 1) := by decide +kernel
theorem d_M_trace_20 : decode m_M_trace.2.1 20 = .ok (.goto (5), 3) := by decide +kernel
def f_M_trace  (S : hs) (x1 : Int32) : Option (Int32 × hs) := bd (f_M_in  S x1 (0 : Int32) ((gI S 191 31) - (1 : Int32))) fun r1 S2 => (if r1 = 0 then some ((-3 : Int32), S2) else ck (inb x1 30) (some ((gI S2 212 (x1).toNatClampNeg), S2)))
theorem c_M_trace (w : Wd) (d : Nat) (c : cx)   (S : hs) (x1 : Int32)  {z : Int32 × hs} (H : f_M_trace S x1 = some z) : Cl w (d + 2) m_M_trace [.ref 191, .int x1] (mk c S) (some (.int z.1)) (mk c z.2) := by
  refine Cl.of (Nat.le_refl _) (Nat.le_refl _) (by decide +kernel) (Nat.le_of_ble_eq_true rfl) ?_
  unfold f_M_trace at H
  generalize hN (mk c S) = n0
  generalize hZ (mk c S) = z0
  show J w (d + 2) m_M_trace (n0, z0, some (.int z.1), mk c z.2) 0 [some (.ref 191), some (.int x1)] [] (mk c S)
  refine J.run b_M_trace_0_6 k_M_trace_0_6 rfl (And.intro (okO_st (S := S) rfl) (show J w (d + 2) m_M_trace (n0, z0, some (.int z.1), mk c z.2) 8 [some (.ref 191), some (.int x1)] [.int ((gI S 191 31) - (1 : Int32)), .int (0 : Int32), .int x1] (mk c S) from ?_))
  obtain ⟨r1, S2, h3, H⟩ := bd_e H
  refine J.callS (y := m_M_in) (av := [.int x1, .int (0 : Int32), .int ((gI S 191 31) - (1 : Int32))]) (rest := []) l_M_105 d_M_trace_8 (c_M_in w (d + 0) c  S x1 (0 : Int32) ((gI S 191 31) - (1 : Int32)) h3) rfl (Nat.le_of_ble_eq_true rfl) ⟨Nat.le_refl _, Nat.le_refl _⟩ (show J w (d + 2) m_M_trace (n0, z0, some (.int z.1), mk c z.2) 11 [some (.ref 191), some (.int x1)] [.int r1] (mk c S2) from ?_)
  refine J.zeq (tgt := 23) d_M_trace_11 rfl (fun q4 => ?_) (fun q4 => ?_)
  · have H := ite_t H q4
    refine J.run b_M_trace_23_1 k_M_trace_23_1 rfl (show J w (d + 2) m_M_trace (n0, z0, some (.int z.1), mk c z.2) 25 [some (.ref 191), some (.int x1)] [.int (-3 : Int32)] (mk c S2) from ?_)
    obtain rfl := some_e H
    exact J.iret d_M_trace_25 rfl rfl
  · have H := ite_f H q4
    obtain ⟨g5, H⟩ := ck_e H
    refine J.run b_M_trace_14_4 k_M_trace_14_4 rfl (And.intro (okO_st (S := S2) rfl) (And.intro (okA_st (S := S2) (n := 30) rfl g5) (show J w (d + 2) m_M_trace (n0, z0, some (.int z.1), mk c z.2) 20 [some (.ref 191), some (.int x1)] [.int (gI S2 212 (x1).toNatClampNeg)] (mk c S2) from ?_)))
    refine J.goto (tgt := 25) d_M_trace_20 rfl ?_
    obtain rfl := some_e H
    exact J.iret d_M_trace_25 rfl rfl
def b_M_many_0_3 : List Ins := [(.iconst (0), 0, 0, 0), (.istore_n 2, 0, 0, 0), (.iload_n 1, 0, 0, 0)]
theorem k_M_many_0_3 : bok m_M_many 0 b_M_many_0_3 = true := by decide +kernel
def b_M_many_48_4 : List Ins := [(.aload_n 0, 0, 0, 0), (.getfield 9, 11, 0, 2), (.iconst (1), 0, 0, 0), (.iaload, 0, 0, 0)]
theorem k_M_many_48_4 : bok m_M_many 48 b_M_many_48_4 = true := by decide +kernel
def b_M_many_55_4 : List Ins := [(.aload_n 0, 0, 0, 0), (.getfield 9, 11, 0, 2), (.iconst (2), 0, 0, 0), (.iaload, 0, 0, 0)]
theorem k_M_many_55_4 : bok m_M_many 55 b_M_many_55_4 = true := by decide +kernel
def b_M_many_62_2 : List Ins := [(.iconst (0), 0, 0, 0), (.istore_n 3, 0, 0, 0)]
theorem k_M_many_62_2 : bok m_M_many 62 b_M_many_62_2 = true := by decide +kernel
def b_M_many_64_2 : List Ins := [(.iload_n 3, 0, 0, 0), (.bipush (40), 0, 0, 0)]
theorem k_M_many_64_2 : bok m_M_many 64 b_M_many_64_2 = true := by decide +kernel
def b_M_many_92_1 : List Ins := [(.iload_n 2, 0, 0, 0)]
theorem k_M_many_92_1 : bok m_M_many 92 b_M_many_92_1 = true := by decide +kernel
def b_M_many_70_3 : List Ins := [(.iload_n 2, 0, 0, 0), (.aload_n 0, 0, 0, 0), (.iload_n 3, 0, 0, 0)]
theorem k_M_many_70_3 : bok m_M_many 70 b_M_many_70_3 = true := by decide +kernel
def b_M_many_83_4 : List Ins := [(.iconst (0), 0, 0, 0), (.iadd, 0, 0, 0), (.istore_n 2, 0, 0, 0), (.iinc 3 (1), 0, 0, 0)]
theorem k_M_many_83_4 : bok m_M_many 83 b_M_many_83_4 = true := by decide +kernel
def b_M_many_79_1 : List Ins := [(.iconst (1), 0, 0, 0)]
theorem k_M_many_79_1 : bok m_M_many 79 b_M_many_79_1 = true := by decide +kernel
def b_M_many_84_3 : List Ins := [(.iadd, 0, 0, 0), (.istore_n 2, 0, 0, 0), (.iinc 3 (1), 0, 0, 0)]
theorem k_M_many_84_3 : bok m_M_many 84 b_M_many_84_3 = true := by decide +kernel
def b_M_many_94_4 : List Ins := [(.aload_n 0, 0, 0, 0), (.getfield 9, 11, 0, 2), (.iconst (3), 0, 0, 0), (.iaload, 0, 0, 0)]
theorem k_M_many_94_4 : bok m_M_many 94 b_M_many_94_4 = true := by decide +kernel
def b_M_many_101_4 : List Ins := [(.aload_n 0, 0, 0, 0), (.getfield 9, 11, 0, 2), (.iconst (4), 0, 0, 0), (.iaload, 0, 0, 0)]
theorem k_M_many_101_4 : bok m_M_many 101 b_M_many_101_4 = true := by decide +kernel
def b_M_many_108_2 : List Ins := [(.aload_n 0, 0, 0, 0), (.getfield 315, 11, 23, 0)]
theorem k_M_many_108_2 : bok m_M_many 108 b_M_many_108_2 = true := by decide +kernel
def b_M_many_113_2 : List Ins := [(.aload_n 0, 0, 0, 0), (.getfield 181, 11, 5, 0)]
theorem k_M_many_113_2 : bok m_M_many 113 b_M_many_113_2 = true := by decide +kernel
def b_M_many_118_2 : List Ins := [(.aload_n 0, 0, 0, 0), (.getfield 333, 11, 31, 0)]
theorem k_M_many_118_2 : bok m_M_many 118 b_M_many_118_2 = true := by decide +kernel
def b_M_many_123_1 : List Ins := [(.iconst (-1), 0, 0, 0)]
theorem k_M_many_123_1 : bok m_M_many 123 b_M_many_123_1 = true := by decide +kernel
theorem d_M_many_3 : decode m_M_many.2.1 3 = .ok (.tableswitch (120) (0) (7) #[45, 52, 59, 91, 98, 105, 110, 115], 45) := by decide +kernel
theorem d_M_many_54 : decode m_M_many.2.1 54 = .ok (.ireturn, 1) := by decide +kernel
theorem d_M_many_61 : decode m_M_many.2.1 61 = .ok (.ireturn, 1) := by decide +kernel
theorem d_M_many_67 : decode m_M_many.2.1 67 = .ok (.if_icmp .ge (25), 3) := by decide +kernel
theorem d_M_many_93 : decode m_M_many.2.1 93 = .ok (.ireturn, 1) := by decide +kernel
theorem d_M_many_73 : decode m_M_many.2.1 73 = .ok (.invokevirtual 123, 3) := by decide +kernel
theorem d_M_many_76 : decode m_M_many.2.1 76 = .ok (.ifCond .eq (7), 3) := by decide +kernel
theorem d_M_many_89 : decode m_M_many.2.1 89 = .ok (.goto (-25), 3) := by decide +kernel
theorem d_M_many_80 : decode m_M_many.2.1 80 = .ok (.goto (4), 3) := by decide +kernel
theorem d_M_many_100 : decode m_M_many.2.1 100 = .ok (.ireturn, 1) := by decide +kernel
theorem d_M_many_107 : decode m_M_many.2.1 107 = .ok (.ireturn, 1) := by decide +kernel
theorem d_M_many_112 : decode m_M_many.2.1 112 = .ok (.ireturn, 1) := by decide +kernel
theorem d_M_many_117 : decode m_M_many.2.1 117 = .ok (.ireturn, 1) := by decide +kernel
theorem d_M_many_122 : decode m_M_many.2.1 122 = .ok (.ireturn, 1) := by decide +kernel
theorem d_M_many_124 : decode m_M_many.2.1 124 = .ok (.ireturn, 1) := by decide +kernel
def lp_M_many_64    : Nat → hs → Int32 → Int32 → Option (Int32 × hs)
  | 0, _, _, _ => none
  | n + 1, S, x2, x3 => (if (40 : Int32) ≤ x3 then some (x2, S) else bd (f_M_isCourse  S x3) fun r5 S6 => (if r5 = 0 then lp_M_many_64  n S6 (x2 + (0 : Int32)) (x3 + (1 : Int32)) else lp_M_many_64  n S6 (x2 + (1 : Int32)) (x3 + (1 : Int32))))
def f_M_many  (S : hs) (x1 : Int32) : Option (Int32 × hs) := (if x1 = (0 : Int32) then some ((gI S 192 1), S) else (if x1 = (1 : Int32) then some ((gI S 192 2), S) else (if x1 = (2 : Int32) then lp_M_many_64  1000 S (0 : Int32) (0 : Int32) else (if x1 = (3 : Int32) then some ((gI S 192 3), S) else (if x1 = (4 : Int32) then some ((gI S 192 4), S) else (if x1 = (5 : Int32) then some ((gI S 191 23), S) else (if x1 = (6 : Int32) then some ((gI S 191 5), S) else (if x1 = (7 : Int32) then some ((gI S 191 31), S) else some ((-1 : Int32), S)))))))))
theorem lo_M_many_64 (w : Wd) (d : Nat) (c : cx) {n0 z0 : Nat} {z : Int32 × hs}       :
    ∀ (n : Nat) (S : hs) (x2 : Int32) (x3 : Int32), lp_M_many_64  n S x2 x3 = some z → J w (d + 3) m_M_many (n0, z0, some (.int z.1), mk c z.2) 64 [some (.ref 191), none, some (.int x2), some (.int x3)] [] (mk c S) := by
  intro n
  induction n with
  | zero => intro S x2 x3 H; cases H
  | succ n ih =>
    intro S x2 x3 H
    rw [lp_M_many_64] at H
    refine J.run b_M_many_64_2 k_M_many_64_2 rfl (show J w (d + 3) m_M_many (n0, z0, some (.int z.1), mk c z.2) 67 [some (.ref 191), none, some (.int x2), some (.int x3)] [.int (40 : Int32), .int x3] (mk c S) from ?_)
    refine J.cge (tgt := 92) d_M_many_67 rfl (fun q4 => ?_) (fun q4 => ?_)
    · have H := ite_t H q4
      refine J.run b_M_many_92_1 k_M_many_92_1 rfl (show J w (d + 3) m_M_many (n0, z0, some (.int z.1), mk c z.2) 93 [some (.ref 191), none, some (.int x2), some (.int x3)] [.int x2] (mk c S) from ?_)
      obtain rfl := some_e H
      exact J.iret d_M_many_93 rfl rfl
    · have H := ite_f H q4
      refine J.run b_M_many_70_3 k_M_many_70_3 rfl (show J w (d + 3) m_M_many (n0, z0, some (.int z.1), mk c z.2) 73 [some (.ref 191), none, some (.int x2), some (.int x3)] [.int x3, .ref 191, .int x2] (mk c S) from ?_)
      obtain ⟨r5, S6, h7, H⟩ := bd_e H
      refine J.callV (y := m_M_isCourse) (av := [.int x3]) (rest := [.int x2]) (q := 191) l_M_123 d_M_many_73 (isC_st rfl rfl) (c_M_isCourse w (d + 0) c  S x3 h7) rfl (Nat.le_of_ble_eq_true rfl) ⟨Nat.le_refl _, Nat.le_refl _⟩ (show J w (d + 3) m_M_many (n0, z0, some (.int z.1), mk c z.2) 76 [some (.ref 191), none, some (.int x2), some (.int x3)] [.int r5, .int x2] (mk c S6) from ?_)
      refine J.zeq (tgt := 83) d_M_many_76 rfl (fun q8 => ?_) (fun q8 => ?_)
      · have H := ite_t H q8
        refine J.run b_M_many_83_4 k_M_many_83_4 rfl (show J w (d + 3) m_M_many (n0, z0, some (.int z.1), mk c z.2) 89 [some (.ref 191), none, some (.int (x2 + (0 : Int32))), some (.int (x3 + (1 : Int32)))] [] (mk c S6) from ?_)
        refine J.goto (tgt := 64) d_M_many_89 rfl ?_
        refine J.mask [true, false, true, true] ?_
        exact ih S6 (x2 + (0 : Int32)) (x3 + (1 : Int32)) H
      · have H := ite_f H q8
        refine J.run b_M_many_79_1 k_M_many_79_1 rfl (show J w (d + 3) m_M_many (n0, z0, some (.int z.1), mk c z.2) 80 [some (.ref 191), none, some (.int x2), some (.int x3)] [.int (1 : Int32), .int x2] (mk c S6) from ?_)
        refine J.goto (tgt := 84) d_M_many_80 rfl ?_
        refine J.run b_M_many_84_3 k_M_many_84_3 rfl (show J w (d + 3) m_M_many (n0, z0, some (.int z.1), mk c z.2) 89 [some (.ref 191), none, some (.int (x2 + (1 : Int32))), some (.int (x3 + (1 : Int32)))] [] (mk c S6) from ?_)
        refine J.goto (tgt := 64) d_M_many_89 rfl ?_
        refine J.mask [true, false, true, true] ?_
        exact ih S6 (x2 + (1 : Int32)) (x3 + (1 : Int32)) H
theorem c_M_many (w : Wd) (d : Nat) (c : cx)   (S : hs) (x1 : Int32)  {z : Int32 × hs} (H : f_M_many S x1 = some z) : Cl w (d + 3) m_M_many [.ref 191, .int x1] (mk c S) (some (.int z.1)) (mk c z.2) := by
  refine Cl.of (Nat.le_refl _) (Nat.le_refl _) (by decide +kernel) (Nat.le_of_ble_eq_true rfl) ?_
  unfold f_M_many at H
  generalize hN (mk c S) = n0
  generalize hZ (mk c S) = z0
  show J w (d + 3) m_M_many (n0, z0, some (.int z.1), mk c z.2) 0 [some (.ref 191), some (.int x1), none, none] [] (mk c S)
  refine J.run b_M_many_0_3 k_M_many_0_3 rfl (show J w (d + 3) m_M_many (n0, z0, some (.int z.1), mk c z.2) 3 [some (.ref 191), some (.int x1), some (.int (0 : Int32)), none] [.int x1] (mk c S) from ?_)
  by_cases q1 : x1 = (0 : Int32)
  · have H := ite_t H q1
    refine J.tsIn (off := 45) (tgt := 48) d_M_many_3 (by rw [q1]; decide) (by rw [q1]; decide) (by rw [q1]; rfl) rfl ?_
    refine J.run b_M_many_48_4 k_M_many_48_4 rfl (And.intro (okO_st (S := S) rfl) (And.intro (okA_st (S := S) (n := 358) rfl rfl) (show J w (d + 3) m_M_many (n0, z0, some (.int z.1), mk c z.2) 54 [some (.ref 191), some (.int x1), some (.int (0 : Int32)), none] [.int (gI S 192 1)] (mk c S) from ?_)))
    obtain rfl := some_e H
    exact J.iret d_M_many_54 rfl rfl
  · have H := ite_f H q1
    by_cases q2 : x1 = (1 : Int32)
    · have H := ite_t H q2
      refine J.tsIn (off := 52) (tgt := 55) d_M_many_3 (by rw [q2]; decide) (by rw [q2]; decide) (by rw [q2]; rfl) rfl ?_
      refine J.run b_M_many_55_4 k_M_many_55_4 rfl (And.intro (okO_st (S := S) rfl) (And.intro (okA_st (S := S) (n := 358) rfl rfl) (show J w (d + 3) m_M_many (n0, z0, some (.int z.1), mk c z.2) 61 [some (.ref 191), some (.int x1), some (.int (0 : Int32)), none] [.int (gI S 192 2)] (mk c S) from ?_)))
      obtain rfl := some_e H
      exact J.iret d_M_many_61 rfl rfl
    · have H := ite_f H q2
      by_cases q3 : x1 = (2 : Int32)
      · have H := ite_t H q3
        refine J.tsIn (off := 59) (tgt := 62) d_M_many_3 (by rw [q3]; decide) (by rw [q3]; decide) (by rw [q3]; rfl) rfl ?_
        refine J.run b_M_many_62_2 k_M_many_62_2 rfl (show J w (d + 3) m_M_many (n0, z0, some (.int z.1), mk c z.2) 64 [some (.ref 191), some (.int x1), some (.int (0 : Int32)), some (.int (0 : Int32))] [] (mk c S) from ?_)
        refine J.mask [true, false, true, true] ?_
        refine lo_M_many_64 w d c   1000 S (0 : Int32) (0 : Int32) H
      · have H := ite_f H q3
        by_cases q9 : x1 = (3 : Int32)
        · have H := ite_t H q9
          refine J.tsIn (off := 91) (tgt := 94) d_M_many_3 (by rw [q9]; decide) (by rw [q9]; decide) (by rw [q9]; rfl) rfl ?_
          refine J.run b_M_many_94_4 k_M_many_94_4 rfl (And.intro (okO_st (S := S) rfl) (And.intro (okA_st (S := S) (n := 358) rfl rfl) (show J w (d + 3) m_M_many (n0, z0, some (.int z.1), mk c z.2) 100 [some (.ref 191), some (.int x1), some (.int (0 : Int32)), none] [.int (gI S 192 3)] (mk c S) from ?_)))
          obtain rfl := some_e H
          exact J.iret d_M_many_100 rfl rfl
        · have H := ite_f H q9
          by_cases q10 : x1 = (4 : Int32)
          · have H := ite_t H q10
            refine J.tsIn (off := 98) (tgt := 101) d_M_many_3 (by rw [q10]; decide) (by rw [q10]; decide) (by rw [q10]; rfl) rfl ?_
            refine J.run b_M_many_101_4 k_M_many_101_4 rfl (And.intro (okO_st (S := S) rfl) (And.intro (okA_st (S := S) (n := 358) rfl rfl) (show J w (d + 3) m_M_many (n0, z0, some (.int z.1), mk c z.2) 107 [some (.ref 191), some (.int x1), some (.int (0 : Int32)), none] [.int (gI S 192 4)] (mk c S) from ?_)))
            obtain rfl := some_e H
            exact J.iret d_M_many_107 rfl rfl
          · have H := ite_f H q10
            by_cases q11 : x1 = (5 : Int32)
            · have H := ite_t H q11
              refine J.tsIn (off := 105) (tgt := 108) d_M_many_3 (by rw [q11]; decide) (by rw [q11]; decide) (by rw [q11]; rfl) rfl ?_
              refine J.run b_M_many_108_2 k_M_many_108_2 rfl (And.intro (okO_st (S := S) rfl) (show J w (d + 3) m_M_many (n0, z0, some (.int z.1), mk c z.2) 112 [some (.ref 191), some (.int x1), some (.int (0 : Int32)), none] [.int (gI S 191 23)] (mk c S) from ?_))
              obtain rfl := some_e H
              exact J.iret d_M_many_112 rfl rfl
            · have H := ite_f H q11
              by_cases q12 : x1 = (6 : Int32)
              · have H := ite_t H q12
                refine J.tsIn (off := 110) (tgt := 113) d_M_many_3 (by rw [q12]; decide) (by rw [q12]; decide) (by rw [q12]; rfl) rfl ?_
                refine J.run b_M_many_113_2 k_M_many_113_2 rfl (And.intro (okO_st (S := S) rfl) (show J w (d + 3) m_M_many (n0, z0, some (.int z.1), mk c z.2) 117 [some (.ref 191), some (.int x1), some (.int (0 : Int32)), none] [.int (gI S 191 5)] (mk c S) from ?_))
                obtain rfl := some_e H
                exact J.iret d_M_many_117 rfl rfl
              · have H := ite_f H q12
                by_cases q13 : x1 = (7 : Int32)
                · have H := ite_t H q13
                  refine J.tsIn (off := 115) (tgt := 118) d_M_many_3 (by rw [q13]; decide) (by rw [q13]; decide) (by rw [q13]; rfl) rfl ?_
                  refine J.run b_M_many_118_2 k_M_many_118_2 rfl (And.intro (okO_st (S := S) rfl) (show J w (d + 3) m_M_many (n0, z0, some (.int z.1), mk c z.2) 122 [some (.ref 191), some (.int x1), some (.int (0 : Int32)), none] [.int (gI S 191 31)] (mk c S) from ?_))
                  obtain rfl := some_e H
                  exact J.iret d_M_many_122 rfl rfl
                · have H := ite_f H q13
                  refine J.tsOut (tgt := 123) d_M_many_3 (tsO fun k h1 h2 => ?_) rfl ?_
                  · rcases (show k = 0 ∨ k = 1 ∨ k = 2 ∨ k = 3 ∨ k = 4 ∨ k = 5 ∨ k = 6 ∨ k = 7 by omega) with rfl | rfl | rfl | rfl | rfl | rfl | rfl | rfl
                    · exact lv_neT q1 rfl
                    · exact lv_neT q2 rfl
                    · exact lv_neT q3 rfl
                    · exact lv_neT q9 rfl
                    · exact lv_neT q10 rfl
                    · exact lv_neT q11 rfl
                    · exact lv_neT q12 rfl
                    · exact lv_neT q13 rfl
                  · refine J.run b_M_many_123_1 k_M_many_123_1 rfl (show J w (d + 3) m_M_many (n0, z0, some (.int z.1), mk c z.2) 124 [some (.ref 191), some (.int x1), some (.int (0 : Int32)), none] [.int (-1 : Int32)] (mk c S) from ?_)
                    obtain rfl := some_e H
                    exact J.iret d_M_many_124 rfl rfl
def b_M_copy_0_2 : List Ins := [(.iconst (0), 0, 0, 0), (.istore_n 2, 0, 0, 0)]
theorem k_M_copy_0_2 : bok m_M_copy 0 b_M_copy_0_2 = true := by decide +kernel
def b_M_copy_2_2 : List Ins := [(.iload_n 2, 0, 0, 0), (.sipush (358), 0, 0, 0)]
theorem k_M_copy_2_2 : bok m_M_copy 2 b_M_copy_2_2 = true := by decide +kernel
def b_M_copy_9_7 : List Ins := [(.aload_n 1, 0, 0, 0), (.iload_n 2, 0, 0, 0), (.aload_n 0, 0, 0, 0), (.iload_n 2, 0, 0, 0), (.iaload, 0, 0, 0), (.iastore, 0, 0, 0), (.iinc 2 (1), 0, 0, 0)]
theorem k_M_copy_9_7 : bok m_M_copy 9 b_M_copy_9_7 = true := by decide +kernel
theorem d_M_copy_6 : decode m_M_copy.2.1 6 = .ok (.if_icmp .ge (15), 3) := by decide +kernel
theorem d_M_copy_21 : decode m_M_copy.2.1 21 = .ok (.return_, 1) := by decide +kernel
theorem d_M_copy_18 : decode m_M_copy.2.1 18 = .ok (.goto (-16), 3) := by decide +kernel
def lp_M_copy_192_193_2    : Nat → hs → Int32 → Option (Int32 × hs)
  | 0, _, _ => none
  | n + 1, S, x2 => (if (358 : Int32) ≤ x2 then some ((0 : Int32), S) else ck (inb x2 358) (lp_M_copy_192_193_2  n (uI S 193 (x2).toNatClampNeg (gI S 192 (x2).toNatClampNeg)) (x2 + (1 : Int32))))
def f_M_copy_192_193  (S : hs)  : Option (Int32 × hs) := lp_M_copy_192_193_2  1000 S (0 : Int32)
theorem lo_M_copy_192_193_2 (w : Wd) (d : Nat) (c : cx) {n0 z0 : Nat} {z : Int32 × hs}       :
    ∀ (n : Nat) (S : hs) (x2 : Int32), lp_M_copy_192_193_2  n S x2 = some z → J w (d + 1) m_M_copy (n0, z0, none, mk c z.2) 2 [some (.ref 192), some (.ref 193), some (.int x2)] [] (mk c S) := by
  intro n
  induction n with
  | zero => intro S x2 H; cases H
  | succ n ih =>
    intro S x2 H
    rw [lp_M_copy_192_193_2] at H
    refine J.run b_M_copy_2_2 k_M_copy_2_2 rfl (show J w (d + 1) m_M_copy (n0, z0, none, mk c z.2) 6 [some (.ref 192), some (.ref 193), some (.int x2)] [.int (358 : Int32), .int x2] (mk c S) from ?_)
    refine J.cge (tgt := 21) d_M_copy_6 rfl (fun q1 => ?_) (fun q1 => ?_)
    · have H := ite_t H q1
      obtain rfl := some_e H
      exact J.vret d_M_copy_21 rfl rfl
    · have H := ite_f H q1
      obtain ⟨g2, H⟩ := ck_e H
      refine J.run b_M_copy_9_7 k_M_copy_9_7 rfl (And.intro (okA_st (S := S) (n := 358) rfl g2) (And.intro (okB_st (S := S) (n := 358) rfl g2) (show J w (d + 1) m_M_copy (n0, z0, none, mk c z.2) 18 [some (.ref 192), some (.ref 193), some (.int (x2 + (1 : Int32)))] [] (mk c (uI S 193 (x2).toNatClampNeg (gI S 192 (x2).toNatClampNeg))) from ?_)))
      refine J.goto (tgt := 2) d_M_copy_18 rfl ?_
      refine J.mask [true, true, true] ?_
      exact ih (uI S 193 (x2).toNatClampNeg (gI S 192 (x2).toNatClampNeg)) (x2 + (1 : Int32)) H
theorem c_M_copy_192_193 (w : Wd) (d : Nat) (c : cx)   (S : hs)   {z : Int32 × hs} (H : f_M_copy_192_193 S = some z) : Cl w (d + 1) m_M_copy [.ref 192, .ref 193] (mk c S) (none) (mk c z.2) := by
  refine Cl.of (Nat.le_refl _) (Nat.le_refl _) (by decide +kernel) (Nat.le_of_ble_eq_true rfl) ?_
  unfold f_M_copy_192_193 at H
  generalize hN (mk c S) = n0
  generalize hZ (mk c S) = z0
  show J w (d + 1) m_M_copy (n0, z0, none, mk c z.2) 0 [some (.ref 192), some (.ref 193), none] [] (mk c S)
  refine J.run b_M_copy_0_2 k_M_copy_0_2 rfl (show J w (d + 1) m_M_copy (n0, z0, none, mk c z.2) 2 [some (.ref 192), some (.ref 193), some (.int (0 : Int32))] [] (mk c S) from ?_)
  refine J.mask [true, true, true] ?_
  refine lo_M_copy_192_193_2 w d c   1000 S (0 : Int32) H
def b_M_keep_0_4 : List Ins := [(.aload_n 0, 0, 0, 0), (.getfield 9, 11, 0, 2), (.aload_n 0, 0, 0, 0), (.getfield 13, 11, 1, 2)]
theorem k_M_keep_0_4 : bok m_M_keep 0 b_M_keep_0_4 = true := by decide +kernel
def b_M_keep_11_4 : List Ins := [(.aload_n 0, 0, 0, 0), (.iconst (1), 0, 0, 0), (.putfield 365, 11, 2, 3), (.iconst (1), 0, 0, 0)]
theorem k_M_keep_11_4 : bok m_M_keep 11 b_M_keep_11_4 = true := by decide +kernel
theorem d_M_keep_8 : decode m_M_keep.2.1 8 = .ok (.invokestatic 361, 3) := by decide +kernel
theorem d_M_keep_17 : decode m_M_keep.2.1 17 = .ok (.ireturn, 1) := by decide +kernel
def f_M_keep  (S : hs)  : Option (Int32 × hs) := bd (f_M_copy_192_193  S) fun r1 S2 => some ((1 : Int32), (uI S2 191 2 (1 : Int32)))
theorem c_M_keep (w : Wd) (d : Nat) (c : cx)   (S : hs)   {z : Int32 × hs} (H : f_M_keep S = some z) : Cl w (d + 2) m_M_keep [.ref 191] (mk c S) (some (.int z.1)) (mk c z.2) := by
  refine Cl.of (Nat.le_refl _) (Nat.le_refl _) (by decide +kernel) (Nat.le_of_ble_eq_true rfl) ?_
  unfold f_M_keep at H
  generalize hN (mk c S) = n0
  generalize hZ (mk c S) = z0
  show J w (d + 2) m_M_keep (n0, z0, some (.int z.1), mk c z.2) 0 [some (.ref 191)] [] (mk c S)
  refine J.run b_M_keep_0_4 k_M_keep_0_4 rfl (And.intro (okO_st (S := S) rfl) (And.intro (okO_st (S := S) rfl) (show J w (d + 2) m_M_keep (n0, z0, some (.int z.1), mk c z.2) 8 [some (.ref 191)] [.ref 193, .ref 192] (mk c S) from ?_)))
  obtain ⟨r1, S2, h3, H⟩ := bd_e H
  refine J.callS (y := m_M_copy) (av := [.ref 192, .ref 193]) (rest := []) l_M_361 d_M_keep_8 (c_M_copy_192_193 w (d + 0) c  S h3) rfl (Nat.le_of_ble_eq_true rfl) ⟨Nat.le_refl _, Nat.le_refl _⟩ (show J w (d + 2) m_M_keep (n0, z0, some (.int z.1), mk c z.2) 11 [some (.ref 191)] [] (mk c S2) from ?_)
  refine J.run b_M_keep_11_4 k_M_keep_11_4 rfl (And.intro (okO_st (S := S2) rfl) (And.intro (by decide) (show J w (d + 2) m_M_keep (n0, z0, some (.int z.1), mk c z.2) 17 [some (.ref 191)] [.int (1 : Int32)] (mk c (uI S2 191 2 (1 : Int32))) from ?_)))
  obtain rfl := some_e H
  exact J.iret d_M_keep_17 rfl rfl
def lp_M_copy_193_192_2    : Nat → hs → Int32 → Option (Int32 × hs)
  | 0, _, _ => none
  | n + 1, S, x2 => (if (358 : Int32) ≤ x2 then some ((0 : Int32), S) else ck (inb x2 358) (lp_M_copy_193_192_2  n (uI S 192 (x2).toNatClampNeg (gI S 193 (x2).toNatClampNeg)) (x2 + (1 : Int32))))
def f_M_copy_193_192  (S : hs)  : Option (Int32 × hs) := lp_M_copy_193_192_2  1000 S (0 : Int32)
theorem lo_M_copy_193_192_2 (w : Wd) (d : Nat) (c : cx) {n0 z0 : Nat} {z : Int32 × hs}       :
    ∀ (n : Nat) (S : hs) (x2 : Int32), lp_M_copy_193_192_2  n S x2 = some z → J w (d + 1) m_M_copy (n0, z0, none, mk c z.2) 2 [some (.ref 193), some (.ref 192), some (.int x2)] [] (mk c S) := by
  intro n
  induction n with
  | zero => intro S x2 H; cases H
  | succ n ih =>
    intro S x2 H
    rw [lp_M_copy_193_192_2] at H
    refine J.run b_M_copy_2_2 k_M_copy_2_2 rfl (show J w (d + 1) m_M_copy (n0, z0, none, mk c z.2) 6 [some (.ref 193), some (.ref 192), some (.int x2)] [.int (358 : Int32), .int x2] (mk c S) from ?_)
    refine J.cge (tgt := 21) d_M_copy_6 rfl (fun q1 => ?_) (fun q1 => ?_)
    · have H := ite_t H q1
      obtain rfl := some_e H
      exact J.vret d_M_copy_21 rfl rfl
    · have H := ite_f H q1
      obtain ⟨g2, H⟩ := ck_e H
      refine J.run b_M_copy_9_7 k_M_copy_9_7 rfl (And.intro (okA_st (S := S) (n := 358) rfl g2) (And.intro (okB_st (S := S) (n := 358) rfl g2) (show J w (d + 1) m_M_copy (n0, z0, none, mk c z.2) 18 [some (.ref 193), some (.ref 192), some (.int (x2 + (1 : Int32)))] [] (mk c (uI S 192 (x2).toNatClampNeg (gI S 193 (x2).toNatClampNeg))) from ?_)))
      refine J.goto (tgt := 2) d_M_copy_18 rfl ?_
      refine J.mask [true, true, true] ?_
      exact ih (uI S 192 (x2).toNatClampNeg (gI S 193 (x2).toNatClampNeg)) (x2 + (1 : Int32)) H
theorem c_M_copy_193_192 (w : Wd) (d : Nat) (c : cx)   (S : hs)   {z : Int32 × hs} (H : f_M_copy_193_192 S = some z) : Cl w (d + 1) m_M_copy [.ref 193, .ref 192] (mk c S) (none) (mk c z.2) := by
  refine Cl.of (Nat.le_refl _) (Nat.le_refl _) (by decide +kernel) (Nat.le_of_ble_eq_true rfl) ?_
  unfold f_M_copy_193_192 at H
  generalize hN (mk c S) = n0
  generalize hZ (mk c S) = z0
  show J w (d + 1) m_M_copy (n0, z0, none, mk c z.2) 0 [some (.ref 193), some (.ref 192), none] [] (mk c S)
  refine J.run b_M_copy_0_2 k_M_copy_0_2 rfl (show J w (d + 1) m_M_copy (n0, z0, none, mk c z.2) 2 [some (.ref 193), some (.ref 192), some (.int (0 : Int32))] [] (mk c S) from ?_)
  refine J.mask [true, true, true] ?_
  refine lo_M_copy_193_192_2 w d c   1000 S (0 : Int32) H
def b_M_again_0_2 : List Ins := [(.aload_n 0, 0, 0, 0), (.getfield 365, 11, 2, 0)]
theorem k_M_again_0_2 : bok m_M_again 0 b_M_again_0_2 = true := by decide +kernel
def b_M_again_10_4 : List Ins := [(.aload_n 0, 0, 0, 0), (.getfield 13, 11, 1, 2), (.aload_n 0, 0, 0, 0), (.getfield 9, 11, 0, 2)]
theorem k_M_again_10_4 : bok m_M_again 10 b_M_again_10_4 = true := by decide +kernel
def b_M_again_21_1 : List Ins := [(.iconst (1), 0, 0, 0)]
theorem k_M_again_21_1 : bok m_M_again 21 b_M_again_21_1 = true := by decide +kernel
def b_M_again_7_1 : List Ins := [(.bipush (-3), 0, 0, 0)]
theorem k_M_again_7_1 : bok m_M_again 7 b_M_again_7_1 = true := by decide +kernel
theorem d_M_again_4 : decode m_M_again.2.1 4 = .ok (.ifCond .ne (6), 3) := by decide +kernel
theorem d_M_again_18 : decode m_M_again.2.1 18 = .ok (.invokestatic 361, 3) := by decide +kernel
theorem d_M_again_22 : decode m_M_again.2.1 22 = .ok (.ireturn, 1) := by decide +kernel
theorem d_M_again_9 : decode m_M_again.2.1 9 = .ok (.ireturn, 1) := by decide +kernel
def f_M_again  (S : hs)  : Option (Int32 × hs) := (if (gI S 191 2) = 0 then some ((-3 : Int32), S) else bd (f_M_copy_193_192  S) fun r2 S3 => some ((1 : Int32), S3))
theorem c_M_again (w : Wd) (d : Nat) (c : cx)   (S : hs)   {z : Int32 × hs} (H : f_M_again S = some z) : Cl w (d + 2) m_M_again [.ref 191] (mk c S) (some (.int z.1)) (mk c z.2) := by
  refine Cl.of (Nat.le_refl _) (Nat.le_refl _) (by decide +kernel) (Nat.le_of_ble_eq_true rfl) ?_
  unfold f_M_again at H
  generalize hN (mk c S) = n0
  generalize hZ (mk c S) = z0
  show J w (d + 2) m_M_again (n0, z0, some (.int z.1), mk c z.2) 0 [some (.ref 191)] [] (mk c S)
  refine J.run b_M_again_0_2 k_M_again_0_2 rfl (And.intro (okO_st (S := S) rfl) (show J w (d + 2) m_M_again (n0, z0, some (.int z.1), mk c z.2) 4 [some (.ref 191)] [.int (gI S 191 2)] (mk c S) from ?_))
  refine J.zne (tgt := 10) d_M_again_4 rfl (fun q1 => ?_) (fun q1 => ?_)
  · have H := ite_f H q1
    refine J.run b_M_again_10_4 k_M_again_10_4 rfl (And.intro (okO_st (S := S) rfl) (And.intro (okO_st (S := S) rfl) (show J w (d + 2) m_M_again (n0, z0, some (.int z.1), mk c z.2) 18 [some (.ref 191)] [.ref 192, .ref 193] (mk c S) from ?_)))
    obtain ⟨r2, S3, h4, H⟩ := bd_e H
    refine J.callS (y := m_M_copy) (av := [.ref 193, .ref 192]) (rest := []) l_M_361 d_M_again_18 (c_M_copy_193_192 w (d + 0) c  S h4) rfl (Nat.le_of_ble_eq_true rfl) ⟨Nat.le_refl _, Nat.le_refl _⟩ (show J w (d + 2) m_M_again (n0, z0, some (.int z.1), mk c z.2) 21 [some (.ref 191)] [] (mk c S3) from ?_)
    refine J.run b_M_again_21_1 k_M_again_21_1 rfl (show J w (d + 2) m_M_again (n0, z0, some (.int z.1), mk c z.2) 22 [some (.ref 191)] [.int (1 : Int32)] (mk c S3) from ?_)
    obtain rfl := some_e H
    exact J.iret d_M_again_22 rfl rfl
  · have H := ite_t H q1
    refine J.run b_M_again_7_1 k_M_again_7_1 rfl (show J w (d + 2) m_M_again (n0, z0, some (.int z.1), mk c z.2) 9 [some (.ref 191)] [.int (-3 : Int32)] (mk c S) from ?_)
    obtain rfl := some_e H
    exact J.iret d_M_again_9 rfl rfl
