/-! Ways -/
def b_Ma_min_0_2 : List Ins := [(.iload_n 0, 0, 0, 0), (.iload_n 1, 0, 0, 0)]
theorem k_Ma_min_0_2 : bok m_Ma_min 0 b_Ma_min_0_2 = true := by decide +kernel
def b_Ma_min_9_1 : List Ins := [(.iload_n 1, 0, 0, 0)]
theorem k_Ma_min_9_1 : bok m_Ma_min 9 b_Ma_min_9_1 = true := by decide +kernel
def b_Ma_min_5_1 : List Ins := [(.iload_n 0, 0, 0, 0)]
theorem k_Ma_min_5_1 : bok m_Ma_min 5 b_Ma_min_5_1 = true := by decide +kernel
theorem d_Ma_min_2 : decode m_Ma_min.2.1 2 = .ok (.if_icmp .gt (7), 3) := by decide +kernel
theorem d_Ma_min_10 : decode m_Ma_min.2.1 10 = .ok (.ireturn, 1) := by decide +kernel
theorem d_Ma_min_6 : decode m_Ma_min.2.1 6 = .ok (.goto (4), 3) := by decide +kernel
def f_Ma_min  (S : hs) (x0 : Int32) (x1 : Int32) : Option (Int32 × hs) := (if x1 < x0 then some (x1, S) else some (x0, S))
theorem c_Ma_min (w : Wd) (d : Nat) (c : cx)   (S : hs) (x0 : Int32) (x1 : Int32)  {z : Int32 × hs} (H : f_Ma_min S x0 x1 = some z) : Cl w (d + 1) m_Ma_min [.int x0, .int x1] (mk c S) (some (.int z.1)) (mk c z.2) := by
  refine Cl.of (Nat.le_refl _) (Nat.le_refl _) (by decide +kernel) (Nat.le_of_ble_eq_true rfl) ?_
  unfold f_Ma_min at H
  generalize hN (mk c S) = n0
  generalize hZ (mk c S) = z0
  show J w (d + 1) m_Ma_min (n0, z0, some (.int z.1), mk c z.2) 0 [some (.int x0), some (.int x1)] [] (mk c S)
  refine J.run b_Ma_min_0_2 k_Ma_min_0_2 rfl (show J w (d + 1) m_Ma_min (n0, z0, some (.int z.1), mk c z.2) 2 [some (.int x0), some (.int x1)] [.int x1, .int x0] (mk c S) from ?_)
  refine J.cgt (tgt := 9) d_Ma_min_2 rfl (fun q1 => ?_) (fun q1 => ?_)
  · have H := ite_t H q1
    refine J.run b_Ma_min_9_1 k_Ma_min_9_1 rfl (show J w (d + 1) m_Ma_min (n0, z0, some (.int z.1), mk c z.2) 10 [some (.int x0), some (.int x1)] [.int x1] (mk c S) from ?_)
    obtain rfl := some_e H
    exact J.iret d_Ma_min_10 rfl rfl
  · have H := ite_f H q1
    refine J.run b_Ma_min_5_1 k_Ma_min_5_1 rfl (show J w (d + 1) m_Ma_min (n0, z0, some (.int z.1), mk c z.2) 6 [some (.int x0), some (.int x1)] [.int x0] (mk c S) from ?_)
    refine J.goto (tgt := 10) d_Ma_min_6 rfl ?_
    obtain rfl := some_e H
    exact J.iret d_Ma_min_10 rfl rfl
def b_W_look_0_12 : List Ins := [(.aload_n 0, 0, 0, 0), (.lconst 0, 0, 0, 0), (.putfield 39, 4, 8, 1), (.aload_n 0, 0, 0, 0), (.lconst 0, 0, 0, 0), (.putfield 43, 4, 9, 1), (.aload_n 0, 0, 0, 0), (.iconst (2), 0, 0, 0), (.aload_n 1, 0, 0, 0), (.getfield 46, 1, 6, 0), (.imul, 0, 0, 0), (.bipush (40), 0, 0, 0)]
theorem k_W_look_0_12 : bok m_W_look 0 b_W_look_0_12 = true := by decide +kernel
def b_W_look_22_5 : List Ins := [(.putfield 58, 4, 10, 0), (.aload_n 0, 0, 0, 0), (.aload_n 1, 0, 0, 0), (.getfield 61, 1, 5, 0), (.bipush (12), 0, 0, 0)]
theorem k_W_look_22_5 : bok m_W_look 22 b_W_look_22_5 = true := by decide +kernel
def b_W_look_35_3 : List Ins := [(.putfield 64, 4, 11, 0), (.iconst (0), 0, 0, 0), (.istore_n 2, 0, 0, 0)]
theorem k_W_look_35_3 : bok m_W_look 35 b_W_look_35_3 = true := by decide +kernel
def b_W_look_40_3 : List Ins := [(.iload_n 2, 0, 0, 0), (.aload_n 0, 0, 0, 0), (.getfield 58, 4, 10, 0)]
theorem k_W_look_40_3 : bok m_W_look 40 b_W_look_40_3 = true := by decide +kernel
def b_W_look_48_6 : List Ins := [(.lconst 1, 0, 0, 0), (.iload_n 2, 0, 0, 0), (.lshl, 0, 0, 0), (.lstore_n 3, 0, 0, 0), (.aload_n 1, 0, 0, 0), (.iload_n 2, 0, 0, 0)]
theorem k_W_look_48_6 : bok m_W_look 48 b_W_look_48_6 = true := by decide +kernel
def b_W_look_57_5 : List Ins := [(.istore 5, 0, 0, 0), (.aload_n 0, 0, 0, 0), (.dup, 0, 0, 0), (.getfield 39, 4, 8, 1), (.iload 5, 0, 0, 0)]
theorem k_W_look_57_5 : bok m_W_look 57 b_W_look_57_5 = true := by decide +kernel
def b_W_look_73_7 : List Ins := [(.lconst 0, 0, 0, 0), (.lor, 0, 0, 0), (.putfield 39, 4, 8, 1), (.aload_n 0, 0, 0, 0), (.dup, 0, 0, 0), (.getfield 43, 4, 9, 1), (.iload 5, 0, 0, 0)]
theorem k_W_look_73_7 : bok m_W_look 73 b_W_look_73_7 = true := by decide +kernel
def b_W_look_100_8 : List Ins := [(.lconst 0, 0, 0, 0), (.lor, 0, 0, 0), (.putfield 43, 4, 9, 1), (.aload_n 0, 0, 0, 0), (.getfield 9, 4, 0, 2), (.iload_n 2, 0, 0, 0), (.aload_n 1, 0, 0, 0), (.iload_n 2, 0, 0, 0)]
theorem k_W_look_100_8 : bok m_W_look 100 b_W_look_100_8 = true := by decide +kernel
def b_W_look_115_6 : List Ins := [(.iastore, 0, 0, 0), (.aload_n 0, 0, 0, 0), (.getfield 15, 4, 1, 2), (.iload_n 2, 0, 0, 0), (.aload_n 1, 0, 0, 0), (.iload_n 2, 0, 0, 0)]
theorem k_W_look_115_6 : bok m_W_look 115 b_W_look_115_6 = true := by decide +kernel
def b_W_look_126_6 : List Ins := [(.iastore, 0, 0, 0), (.aload_n 0, 0, 0, 0), (.getfield 18, 4, 2, 2), (.iload_n 2, 0, 0, 0), (.aload_n 1, 0, 0, 0), (.iload_n 2, 0, 0, 0)]
theorem k_W_look_126_6 : bok m_W_look 126 b_W_look_126_6 = true := by decide +kernel
def b_W_look_137_2 : List Ins := [(.iastore, 0, 0, 0), (.iinc 2 (1), 0, 0, 0)]
theorem k_W_look_137_2 : bok m_W_look 137 b_W_look_137_2 = true := by decide +kernel
def b_W_look_88_2 : List Ins := [(.aload_n 1, 0, 0, 0), (.iload_n 2, 0, 0, 0)]
theorem k_W_look_88_2 : bok m_W_look 88 b_W_look_88_2 = true := by decide +kernel
def b_W_look_96_1 : List Ins := [(.lload_n 3, 0, 0, 0)]
theorem k_W_look_96_1 : bok m_W_look 96 b_W_look_96_1 = true := by decide +kernel
def b_W_look_101_7 : List Ins := [(.lor, 0, 0, 0), (.putfield 43, 4, 9, 1), (.aload_n 0, 0, 0, 0), (.getfield 9, 4, 0, 2), (.iload_n 2, 0, 0, 0), (.aload_n 1, 0, 0, 0), (.iload_n 2, 0, 0, 0)]
theorem k_W_look_101_7 : bok m_W_look 101 b_W_look_101_7 = true := by decide +kernel
def b_W_look_69_1 : List Ins := [(.lload_n 3, 0, 0, 0)]
theorem k_W_look_69_1 : bok m_W_look 69 b_W_look_69_1 = true := by decide +kernel
def b_W_look_74_6 : List Ins := [(.lor, 0, 0, 0), (.putfield 39, 4, 8, 1), (.aload_n 0, 0, 0, 0), (.dup, 0, 0, 0), (.getfield 43, 4, 9, 1), (.iload 5, 0, 0, 0)]
theorem k_W_look_74_6 : bok m_W_look 74 b_W_look_74_6 = true := by decide +kernel
theorem d_W_look_19 : decode m_W_look.2.1 19 = .ok (.invokestatic 52, 3) := by decide +kernel
theorem d_W_look_32 : decode m_W_look.2.1 32 = .ok (.invokestatic 52, 3) := by decide +kernel
theorem d_W_look_45 : decode m_W_look.2.1 45 = .ok (.if_icmp .ge (99), 3) := by decide +kernel
theorem d_W_look_144 : decode m_W_look.2.1 144 = .ok (.return_, 1) := by decide +kernel
theorem d_W_look_54 : decode m_W_look.2.1 54 = .ok (.invokevirtual 65, 3) := by decide +kernel
theorem d_W_look_66 : decode m_W_look.2.1 66 = .ok (.ifCond .eq (7), 3) := by decide +kernel
theorem d_W_look_85 : decode m_W_look.2.1 85 = .ok (.ifCond .ne (15), 3) := by decide +kernel
theorem d_W_look_112 : decode m_W_look.2.1 112 = .ok (.invokevirtual 72, 3) := by decide +kernel
theorem d_W_look_123 : decode m_W_look.2.1 123 = .ok (.invokevirtual 76, 3) := by decide +kernel
theorem d_W_look_134 : decode m_W_look.2.1 134 = .ok (.invokevirtual 79, 3) := by decide +kernel
theorem d_W_look_141 : decode m_W_look.2.1 141 = .ok (.goto (-101), 3) := by decide +kernel
theorem d_W_look_90 : decode m_W_look.2.1 90 = .ok (.invokevirtual 69, 3) := by decide +kernel
theorem d_W_look_93 : decode m_W_look.2.1 93 = .ok (.ifCond .eq (7), 3) := by decide +kernel
theorem d_W_look_97 : decode m_W_look.2.1 97 = .ok (.goto (4), 3) := by decide +kernel
theorem d_W_look_70 : decode m_W_look.2.1 70 = .ok (.goto (4), 3) := by decide +kernel
def lp_W_look_34_40    : Nat → hs → Int32 → Option (Int32 × hs)
  | 0, _, _ => none
  | n + 1, S, x2 => (if (gI S 138 10) ≤ x2 then some ((0 : Int32), S) else bd (f_T_hasCourse  S x2) fun r8 S9 => (if r8 = 0 then (if r8 = 0 then bd (f_T_hasWay  (uJ S9 138 8 ((gJ S9 138 8) ||| (0 : Int64))) x2) fun r23 S24 => (if r23 = 0 then bd (f_T_beginOf  (uJ S24 138 9 ((gJ (uJ S9 138 8 ((gJ S9 138 8) ||| (0 : Int64))) 138 9) ||| (0 : Int64))) x2) fun r27 S28 => ck (inb x2 40) (bd (f_T_endOf  (uI S28 139 (x2).toNatClampNeg r27) x2) fun r31 S32 => bd (f_T_longOf  (uI S32 140 (x2).toNatClampNeg r31) x2) fun r34 S35 => lp_W_look_34_40  n (uI S35 141 (x2).toNatClampNeg r34) (x2 + (1 : Int32))) else bd (f_T_beginOf  (uJ S24 138 9 ((gJ (uJ S9 138 8 ((gJ S9 138 8) ||| (0 : Int64))) 138 9) ||| ((1 : Int64) <<< (x2.toInt64 &&& 63)))) x2) fun r37 S38 => ck (inb x2 40) (bd (f_T_endOf  (uI S38 139 (x2).toNatClampNeg r37) x2) fun r41 S42 => bd (f_T_longOf  (uI S42 140 (x2).toNatClampNeg r41) x2) fun r44 S45 => lp_W_look_34_40  n (uI S45 141 (x2).toNatClampNeg r44) (x2 + (1 : Int32)))) else bd (f_T_beginOf  (uJ (uJ S9 138 8 ((gJ S9 138 8) ||| (0 : Int64))) 138 9 ((gJ (uJ S9 138 8 ((gJ S9 138 8) ||| (0 : Int64))) 138 9) ||| (0 : Int64))) x2) fun r13 S14 => ck (inb x2 40) (bd (f_T_endOf  (uI S14 139 (x2).toNatClampNeg r13) x2) fun r17 S18 => bd (f_T_longOf  (uI S18 140 (x2).toNatClampNeg r17) x2) fun r20 S21 => lp_W_look_34_40  n (uI S21 141 (x2).toNatClampNeg r20) (x2 + (1 : Int32)))) else (if r8 = 0 then bd (f_T_hasWay  (uJ S9 138 8 ((gJ S9 138 8) ||| ((1 : Int64) <<< (x2.toInt64 &&& 63)))) x2) fun r58 S59 => (if r58 = 0 then bd (f_T_beginOf  (uJ S59 138 9 ((gJ (uJ S9 138 8 ((gJ S9 138 8) ||| ((1 : Int64) <<< (x2.toInt64 &&& 63)))) 138 9) ||| (0 : Int64))) x2) fun r62 S63 => ck (inb x2 40) (bd (f_T_endOf  (uI S63 139 (x2).toNatClampNeg r62) x2) fun r66 S67 => bd (f_T_longOf  (uI S67 140 (x2).toNatClampNeg r66) x2) fun r69 S70 => lp_W_look_34_40  n (uI S70 141 (x2).toNatClampNeg r69) (x2 + (1 : Int32))) else bd (f_T_beginOf  (uJ S59 138 9 ((gJ (uJ S9 138 8 ((gJ S9 138 8) ||| ((1 : Int64) <<< (x2.toInt64 &&& 63)))) 138 9) ||| ((1 : Int64) <<< (x2.toInt64 &&& 63)))) x2) fun r72 S73 => ck (inb x2 40) (bd (f_T_endOf  (uI S73 139 (x2).toNatClampNeg r72) x2) fun r76 S77 => bd (f_T_longOf  (uI S77 140 (x2).toNatClampNeg r76) x2) fun r79 S80 => lp_W_look_34_40  n (uI S80 141 (x2).toNatClampNeg r79) (x2 + (1 : Int32)))) else bd (f_T_beginOf  (uJ (uJ S9 138 8 ((gJ S9 138 8) ||| ((1 : Int64) <<< (x2.toInt64 &&& 63)))) 138 9 ((gJ (uJ S9 138 8 ((gJ S9 138 8) ||| ((1 : Int64) <<< (x2.toInt64 &&& 63)))) 138 9) ||| (0 : Int64))) x2) fun r48 S49 => ck (inb x2 40) (bd (f_T_endOf  (uI S49 139 (x2).toNatClampNeg r48) x2) fun r52 S53 => bd (f_T_longOf  (uI S53 140 (x2).toNatClampNeg r52) x2) fun r55 S56 => lp_W_look_34_40  n (uI S56 141 (x2).toNatClampNeg r55) (x2 + (1 : Int32))))))
def f_W_look_34  (S : hs)  : Option (Int32 × hs) := bd (f_Ma_min  (uJ (uJ S 138 8 (0 : Int64)) 138 9 (0 : Int64)) ((2 : Int32) * (gI (uJ (uJ S 138 8 (0 : Int64)) 138 9 (0 : Int64)) 34 6)) (40 : Int32)) fun r1 S2 => bd (f_Ma_min  (uI S2 138 10 r1) (gI (uI S2 138 10 r1) 34 5) (12 : Int32)) fun r4 S5 => lp_W_look_34_40  1000 (uI S5 138 11 r4) (0 : Int32)
theorem lo_W_look_34_40 (w : Wd) (d : Nat) (c : cx) {n0 z0 : Nat} {z : Int32 × hs}       :
    ∀ (n : Nat) (S : hs) (x2 : Int32), lp_W_look_34_40  n S x2 = some z → J w (d + 4) m_W_look (n0, z0, none, mk c z.2) 40 [some (.ref 138), some (.ref 34), some (.int x2), none, none, none] [] (mk c S) := by
  intro n
  induction n with
  | zero => intro S x2 H; cases H
  | succ n ih =>
    intro S x2 H
    rw [lp_W_look_34_40] at H
    refine J.run b_W_look_40_3 k_W_look_40_3 rfl (And.intro (okO_st (S := S) rfl) (show J w (d + 4) m_W_look (n0, z0, none, mk c z.2) 45 [some (.ref 138), some (.ref 34), some (.int x2), none, none, none] [.int (gI S 138 10), .int x2] (mk c S) from ?_))
    refine J.cge (tgt := 144) d_W_look_45 rfl (fun q7 => ?_) (fun q7 => ?_)
    · have H := ite_t H q7
      obtain rfl := some_e H
      exact J.vret d_W_look_144 rfl rfl
    · have H := ite_f H q7
      refine J.run b_W_look_48_6 k_W_look_48_6 rfl (show J w (d + 4) m_W_look (n0, z0, none, mk c z.2) 54 [some (.ref 138), some (.ref 34), some (.int x2), some (.long ((1 : Int64) <<< (x2.toInt64 &&& 63))), none, none] [.int x2, .ref 34] (mk c S) from ?_)
      obtain ⟨r8, S9, h10, H⟩ := bd_e H
      refine J.callV (y := m_T_hasCourse) (av := [.int x2]) (rest := []) (q := 34) l_W_65 d_W_look_54 (isC_st rfl rfl) (c_T_hasCourse w (d + 0) c  S x2 h10) rfl (Nat.le_of_ble_eq_true rfl) ⟨Nat.le_refl _, Nat.le_refl _⟩ (show J w (d + 4) m_W_look (n0, z0, none, mk c z.2) 57 [some (.ref 138), some (.ref 34), some (.int x2), some (.long ((1 : Int64) <<< (x2.toInt64 &&& 63))), none, none] [.int r8] (mk c S9) from ?_)
      refine J.run b_W_look_57_5 k_W_look_57_5 rfl (And.intro (okO_st (S := S9) rfl) (show J w (d + 4) m_W_look (n0, z0, none, mk c z.2) 66 [some (.ref 138), some (.ref 34), some (.int x2), some (.long ((1 : Int64) <<< (x2.toInt64 &&& 63))), none, some (.int r8)] [.int r8, .long (gJ S9 138 8), .ref 138] (mk c S9) from ?_))
      refine J.zeq (tgt := 73) d_W_look_66 rfl (fun q11 => ?_) (fun q11 => ?_)
      · have H := ite_t H q11
        refine J.run b_W_look_73_7 k_W_look_73_7 rfl (And.intro (okO_st (S := S9) rfl) (And.intro (okO_st (S := (uJ S9 138 8 ((gJ S9 138 8) ||| (0 : Int64)))) rfl) (show J w (d + 4) m_W_look (n0, z0, none, mk c z.2) 85 [some (.ref 138), some (.ref 34), some (.int x2), some (.long ((1 : Int64) <<< (x2.toInt64 &&& 63))), none, some (.int r8)] [.int r8, .long (gJ (uJ S9 138 8 ((gJ S9 138 8) ||| (0 : Int64))) 138 9), .ref 138] (mk c (uJ S9 138 8 ((gJ S9 138 8) ||| (0 : Int64)))) from ?_)))
        refine J.zne (tgt := 100) d_W_look_85 rfl (fun q12 => ?_) (fun q12 => ?_)
        · have H := ite_f H q12
          refine J.run b_W_look_100_8 k_W_look_100_8 rfl (And.intro (okO_st (S := (uJ S9 138 8 ((gJ S9 138 8) ||| (0 : Int64)))) rfl) (And.intro (okO_st (S := (uJ (uJ S9 138 8 ((gJ S9 138 8) ||| (0 : Int64))) 138 9 ((gJ (uJ S9 138 8 ((gJ S9 138 8) ||| (0 : Int64))) 138 9) ||| (0 : Int64)))) rfl) (show J w (d + 4) m_W_look (n0, z0, none, mk c z.2) 112 [some (.ref 138), some (.ref 34), some (.int x2), some (.long ((1 : Int64) <<< (x2.toInt64 &&& 63))), none, some (.int r8)] [.int x2, .ref 34, .int x2, .ref 139] (mk c (uJ (uJ S9 138 8 ((gJ S9 138 8) ||| (0 : Int64))) 138 9 ((gJ (uJ S9 138 8 ((gJ S9 138 8) ||| (0 : Int64))) 138 9) ||| (0 : Int64)))) from ?_)))
          obtain ⟨r13, S14, h15, H⟩ := bd_e H
          refine J.callV (y := m_T_beginOf) (av := [.int x2]) (rest := [.int x2, .ref 139]) (q := 34) l_W_72 d_W_look_112 (isC_st rfl rfl) (c_T_beginOf w (d + 1) c  (uJ (uJ S9 138 8 ((gJ S9 138 8) ||| (0 : Int64))) 138 9 ((gJ (uJ S9 138 8 ((gJ S9 138 8) ||| (0 : Int64))) 138 9) ||| (0 : Int64))) x2 h15) rfl (Nat.le_of_ble_eq_true rfl) ⟨Nat.le_refl _, Nat.le_refl _⟩ (show J w (d + 4) m_W_look (n0, z0, none, mk c z.2) 115 [some (.ref 138), some (.ref 34), some (.int x2), some (.long ((1 : Int64) <<< (x2.toInt64 &&& 63))), none, some (.int r8)] [.int r13, .int x2, .ref 139] (mk c S14) from ?_)
          obtain ⟨g16, H⟩ := ck_e H
          refine J.run b_W_look_115_6 k_W_look_115_6 rfl (And.intro (okB_st (S := S14) (n := 40) rfl g16) (And.intro (okO_st (S := (uI S14 139 (x2).toNatClampNeg r13)) rfl) (show J w (d + 4) m_W_look (n0, z0, none, mk c z.2) 123 [some (.ref 138), some (.ref 34), some (.int x2), some (.long ((1 : Int64) <<< (x2.toInt64 &&& 63))), none, some (.int r8)] [.int x2, .ref 34, .int x2, .ref 140] (mk c (uI S14 139 (x2).toNatClampNeg r13)) from ?_)))
          obtain ⟨r17, S18, h19, H⟩ := bd_e H
          refine J.callV (y := m_T_endOf) (av := [.int x2]) (rest := [.int x2, .ref 140]) (q := 34) l_W_76 d_W_look_123 (isC_st rfl rfl) (c_T_endOf w (d + 1) c  (uI S14 139 (x2).toNatClampNeg r13) x2 h19) rfl (Nat.le_of_ble_eq_true rfl) ⟨Nat.le_refl _, Nat.le_refl _⟩ (show J w (d + 4) m_W_look (n0, z0, none, mk c z.2) 126 [some (.ref 138), some (.ref 34), some (.int x2), some (.long ((1 : Int64) <<< (x2.toInt64 &&& 63))), none, some (.int r8)] [.int r17, .int x2, .ref 140] (mk c S18) from ?_)
          refine J.run b_W_look_126_6 k_W_look_126_6 rfl (And.intro (okB_st (S := S18) (n := 40) rfl g16) (And.intro (okO_st (S := (uI S18 140 (x2).toNatClampNeg r17)) rfl) (show J w (d + 4) m_W_look (n0, z0, none, mk c z.2) 134 [some (.ref 138), some (.ref 34), some (.int x2), some (.long ((1 : Int64) <<< (x2.toInt64 &&& 63))), none, some (.int r8)] [.int x2, .ref 34, .int x2, .ref 141] (mk c (uI S18 140 (x2).toNatClampNeg r17)) from ?_)))
          obtain ⟨r20, S21, h22, H⟩ := bd_e H
          refine J.callV (y := m_T_longOf) (av := [.int x2]) (rest := [.int x2, .ref 141]) (q := 34) l_W_79 d_W_look_134 (isC_st rfl rfl) (c_T_longOf w (d + 1) c  (uI S18 140 (x2).toNatClampNeg r17) x2 h22) rfl (Nat.le_of_ble_eq_true rfl) ⟨Nat.le_refl _, Nat.le_refl _⟩ (show J w (d + 4) m_W_look (n0, z0, none, mk c z.2) 137 [some (.ref 138), some (.ref 34), some (.int x2), some (.long ((1 : Int64) <<< (x2.toInt64 &&& 63))), none, some (.int r8)] [.int r20, .int x2, .ref 141] (mk c S21) from ?_)
          refine J.run b_W_look_137_2 k_W_look_137_2 rfl (And.intro (okB_st (S := S21) (n := 40) rfl g16) (show J w (d + 4) m_W_look (n0, z0, none, mk c z.2) 141 [some (.ref 138), some (.ref 34), some (.int (x2 + (1 : Int32))), some (.long ((1 : Int64) <<< (x2.toInt64 &&& 63))), none, some (.int r8)] [] (mk c (uI S21 141 (x2).toNatClampNeg r20)) from ?_))
          refine J.goto (tgt := 40) d_W_look_141 rfl ?_
          refine J.mask [true, true, true, false, false, false] ?_
          exact ih (uI S21 141 (x2).toNatClampNeg r20) (x2 + (1 : Int32)) H
        · have H := ite_t H q12
          refine J.run b_W_look_88_2 k_W_look_88_2 rfl (show J w (d + 4) m_W_look (n0, z0, none, mk c z.2) 90 [some (.ref 138), some (.ref 34), some (.int x2), some (.long ((1 : Int64) <<< (x2.toInt64 &&& 63))), none, some (.int r8)] [.int x2, .ref 34, .long (gJ (uJ S9 138 8 ((gJ S9 138 8) ||| (0 : Int64))) 138 9), .ref 138] (mk c (uJ S9 138 8 ((gJ S9 138 8) ||| (0 : Int64)))) from ?_)
          obtain ⟨r23, S24, h25, H⟩ := bd_e H
          refine J.callV (y := m_T_hasWay) (av := [.int x2]) (rest := [.long (gJ (uJ S9 138 8 ((gJ S9 138 8) ||| (0 : Int64))) 138 9), .ref 138]) (q := 34) l_W_69 d_W_look_90 (isC_st rfl rfl) (c_T_hasWay w (d + 1) c  (uJ S9 138 8 ((gJ S9 138 8) ||| (0 : Int64))) x2 h25) rfl (Nat.le_of_ble_eq_true rfl) ⟨Nat.le_refl _, Nat.le_refl _⟩ (show J w (d + 4) m_W_look (n0, z0, none, mk c z.2) 93 [some (.ref 138), some (.ref 34), some (.int x2), some (.long ((1 : Int64) <<< (x2.toInt64 &&& 63))), none, some (.int r8)] [.int r23, .long (gJ (uJ S9 138 8 ((gJ S9 138 8) ||| (0 : Int64))) 138 9), .ref 138] (mk c S24) from ?_)
          refine J.zeq (tgt := 100) d_W_look_93 rfl (fun q26 => ?_) (fun q26 => ?_)
          · have H := ite_t H q26
            refine J.run b_W_look_100_8 k_W_look_100_8 rfl (And.intro (okO_st (S := S24) rfl) (And.intro (okO_st (S := (uJ S24 138 9 ((gJ (uJ S9 138 8 ((gJ S9 138 8) ||| (0 : Int64))) 138 9) ||| (0 : Int64)))) rfl) (show J w (d + 4) m_W_look (n0, z0, none, mk c z.2) 112 [some (.ref 138), some (.ref 34), some (.int x2), some (.long ((1 : Int64) <<< (x2.toInt64 &&& 63))), none, some (.int r8)] [.int x2, .ref 34, .int x2, .ref 139] (mk c (uJ S24 138 9 ((gJ (uJ S9 138 8 ((gJ S9 138 8) ||| (0 : Int64))) 138 9) ||| (0 : Int64)))) from ?_)))
            obtain ⟨r27, S28, h29, H⟩ := bd_e H
            refine J.callV (y := m_T_beginOf) (av := [.int x2]) (rest := [.int x2, .ref 139]) (q := 34) l_W_72 d_W_look_112 (isC_st rfl rfl) (c_T_beginOf w (d + 1) c  (uJ S24 138 9 ((gJ (uJ S9 138 8 ((gJ S9 138 8) ||| (0 : Int64))) 138 9) ||| (0 : Int64))) x2 h29) rfl (Nat.le_of_ble_eq_true rfl) ⟨Nat.le_refl _, Nat.le_refl _⟩ (show J w (d + 4) m_W_look (n0, z0, none, mk c z.2) 115 [some (.ref 138), some (.ref 34), some (.int x2), some (.long ((1 : Int64) <<< (x2.toInt64 &&& 63))), none, some (.int r8)] [.int r27, .int x2, .ref 139] (mk c S28) from ?_)
            obtain ⟨g30, H⟩ := ck_e H
            refine J.run b_W_look_115_6 k_W_look_115_6 rfl (And.intro (okB_st (S := S28) (n := 40) rfl g30) (And.intro (okO_st (S := (uI S28 139 (x2).toNatClampNeg r27)) rfl) (show J w (d + 4) m_W_look (n0, z0, none, mk c z.2) 123 [some (.ref 138), some (.ref 34), some (.int x2), some (.long ((1 : Int64) <<< (x2.toInt64 &&& 63))), none, some (.int r8)] [.int x2, .ref 34, .int x2, .ref 140] (mk c (uI S28 139 (x2).toNatClampNeg r27)) from ?_)))
            obtain ⟨r31, S32, h33, H⟩ := bd_e H
            refine J.callV (y := m_T_endOf) (av := [.int x2]) (rest := [.int x2, .ref 140]) (q := 34) l_W_76 d_W_look_123 (isC_st rfl rfl) (c_T_endOf w (d + 1) c  (uI S28 139 (x2).toNatClampNeg r27) x2 h33) rfl (Nat.le_of_ble_eq_true rfl) ⟨Nat.le_refl _, Nat.le_refl _⟩ (show J w (d + 4) m_W_look (n0, z0, none, mk c z.2) 126 [some (.ref 138), some (.ref 34), some (.int x2), some (.long ((1 : Int64) <<< (x2.toInt64 &&& 63))), none, some (.int r8)] [.int r31, .int x2, .ref 140] (mk c S32) from ?_)
            refine J.run b_W_look_126_6 k_W_look_126_6 rfl (And.intro (okB_st (S := S32) (n := 40) rfl g30) (And.intro (okO_st (S := (uI S32 140 (x2).toNatClampNeg r31)) rfl) (show J w (d + 4) m_W_look (n0, z0, none, mk c z.2) 134 [some (.ref 138), some (.ref 34), some (.int x2), some (.long ((1 : Int64) <<< (x2.toInt64 &&& 63))), none, some (.int r8)] [.int x2, .ref 34, .int x2, .ref 141] (mk c (uI S32 140 (x2).toNatClampNeg r31)) from ?_)))
            obtain ⟨r34, S35, h36, H⟩ := bd_e H
            refine J.callV (y := m_T_longOf) (av := [.int x2]) (rest := [.int x2, .ref 141]) (q := 34) l_W_79 d_W_look_134 (isC_st rfl rfl) (c_T_longOf w (d + 1) c  (uI S32 140 (x2).toNatClampNeg r31) x2 h36) rfl (Nat.le_of_ble_eq_true rfl) ⟨Nat.le_refl _, Nat.le_refl _⟩ (show J w (d + 4) m_W_look (n0, z0, none, mk c z.2) 137 [some (.ref 138), some (.ref 34), some (.int x2), some (.long ((1 : Int64) <<< (x2.toInt64 &&& 63))), none, some (.int r8)] [.int r34, .int x2, .ref 141] (mk c S35) from ?_)
            refine J.run b_W_look_137_2 k_W_look_137_2 rfl (And.intro (okB_st (S := S35) (n := 40) rfl g30) (show J w (d + 4) m_W_look (n0, z0, none, mk c z.2) 141 [some (.ref 138), some (.ref 34), some (.int (x2 + (1 : Int32))), some (.long ((1 : Int64) <<< (x2.toInt64 &&& 63))), none, some (.int r8)] [] (mk c (uI S35 141 (x2).toNatClampNeg r34)) from ?_))
            refine J.goto (tgt := 40) d_W_look_141 rfl ?_
            refine J.mask [true, true, true, false, false, false] ?_
            exact ih (uI S35 141 (x2).toNatClampNeg r34) (x2 + (1 : Int32)) H
          · have H := ite_f H q26
            refine J.run b_W_look_96_1 k_W_look_96_1 rfl (show J w (d + 4) m_W_look (n0, z0, none, mk c z.2) 97 [some (.ref 138), some (.ref 34), some (.int x2), some (.long ((1 : Int64) <<< (x2.toInt64 &&& 63))), none, some (.int r8)] [.long ((1 : Int64) <<< (x2.toInt64 &&& 63)), .long (gJ (uJ S9 138 8 ((gJ S9 138 8) ||| (0 : Int64))) 138 9), .ref 138] (mk c S24) from ?_)
            refine J.goto (tgt := 101) d_W_look_97 rfl ?_
            refine J.run b_W_look_101_7 k_W_look_101_7 rfl (And.intro (okO_st (S := S24) rfl) (And.intro (okO_st (S := (uJ S24 138 9 ((gJ (uJ S9 138 8 ((gJ S9 138 8) ||| (0 : Int64))) 138 9) ||| ((1 : Int64) <<< (x2.toInt64 &&& 63))))) rfl) (show J w (d + 4) m_W_look (n0, z0, none, mk c z.2) 112 [some (.ref 138), some (.ref 34), some (.int x2), some (.long ((1 : Int64) <<< (x2.toInt64 &&& 63))), none, some (.int r8)] [.int x2, .ref 34, .int x2, .ref 139] (mk c (uJ S24 138 9 ((gJ (uJ S9 138 8 ((gJ S9 138 8) ||| (0 : Int64))) 138 9) ||| ((1 : Int64) <<< (x2.toInt64 &&& 63))))) from ?_)))
            obtain ⟨r37, S38, h39, H⟩ := bd_e H
            refine J.callV (y := m_T_beginOf) (av := [.int x2]) (rest := [.int x2, .ref 139]) (q := 34) l_W_72 d_W_look_112 (isC_st rfl rfl) (c_T_beginOf w (d + 1) c  (uJ S24 138 9 ((gJ (uJ S9 138 8 ((gJ S9 138 8) ||| (0 : Int64))) 138 9) ||| ((1 : Int64) <<< (x2.toInt64 &&& 63)))) x2 h39) rfl (Nat.le_of_ble_eq_true rfl) ⟨Nat.le_refl _, Nat.le_refl _⟩ (show J w (d + 4) m_W_look (n0, z0, none, mk c z.2) 115 [some (.ref 138), some (.ref 34), some (.int x2), some (.long ((1 : Int64) <<< (x2.toInt64 &&& 63))), none, some (.int r8)] [.int r37, .int x2, .ref 139] (mk c S38) from ?_)
            obtain ⟨g40, H⟩ := ck_e H
            refine J.run b_W_look_115_6 k_W_look_115_6 rfl (And.intro (okB_st (S := S38) (n := 40) rfl g40) (And.intro (okO_st (S := (uI S38 139 (x2).toNatClampNeg r37)) rfl) (show J w (d + 4) m_W_look (n0, z0, none, mk c z.2) 123 [some (.ref 138), some (.ref 34), some (.int x2), some (.long ((1 : Int64) <<< (x2.toInt64 &&& 63))), none, some (.int r8)] [.int x2, .ref 34, .int x2, .ref 140] (mk c (uI S38 139 (x2).toNatClampNeg r37)) from ?_)))
            obtain ⟨r41, S42, h43, H⟩ := bd_e H
            refine J.callV (y := m_T_endOf) (av := [.int x2]) (rest := [.int x2, .ref 140]) (q := 34) l_W_76 d_W_look_123 (isC_st rfl rfl) (c_T_endOf w (d + 1) c  (uI S38 139 (x2).toNatClampNeg r37) x2 h43) rfl (Nat.le_of_ble_eq_true rfl) ⟨Nat.le_refl _, Nat.le_refl _⟩ (show J w (d + 4) m_W_look (n0, z0, none, mk c z.2) 126 [some (.ref 138), some (.ref 34), some (.int x2), some (.long ((1 : Int64) <<< (x2.toInt64 &&& 63))), none, some (.int r8)] [.int r41, .int x2, .ref 140] (mk c S42) from ?_)
            refine J.run b_W_look_126_6 k_W_look_126_6 rfl (And.intro (okB_st (S := S42) (n := 40) rfl g40) (And.intro (okO_st (S := (uI S42 140 (x2).toNatClampNeg r41)) rfl) (show J w (d + 4) m_W_look (n0, z0, none, mk c z.2) 134 [some (.ref 138), some (.ref 34), some (.int x2), some (.long ((1 : Int64) <<< (x2.toInt64 &&& 63))), none, some (.int r8)] [.int x2, .ref 34, .int x2, .ref 141] (mk c (uI S42 140 (x2).toNatClampNeg r41)) from ?_)))
            obtain ⟨r44, S45, h46, H⟩ := bd_e H
            refine J.callV (y := m_T_longOf) (av := [.int x2]) (rest := [.int x2, .ref 141]) (q := 34) l_W_79 d_W_look_134 (isC_st rfl rfl) (c_T_longOf w (d + 1) c  (uI S42 140 (x2).toNatClampNeg r41) x2 h46) rfl (Nat.le_of_ble_eq_true rfl) ⟨Nat.le_refl _, Nat.le_refl _⟩ (show J w (d + 4) m_W_look (n0, z0, none, mk c z.2) 137 [some (.ref 138), some (.ref 34), some (.int x2), some (.long ((1 : Int64) <<< (x2.toInt64 &&& 63))), none, some (.int r8)] [.int r44, .int x2, .ref 141] (mk c S45) from ?_)
            refine J.run b_W_look_137_2 k_W_look_137_2 rfl (And.intro (okB_st (S := S45) (n := 40) rfl g40) (show J w (d + 4) m_W_look (n0, z0, none, mk c z.2) 141 [some (.ref 138), some (.ref 34), some (.int (x2 + (1 : Int32))), some (.long ((1 : Int64) <<< (x2.toInt64 &&& 63))), none, some (.int r8)] [] (mk c (uI S45 141 (x2).toNatClampNeg r44)) from ?_))
            refine J.goto (tgt := 40) d_W_look_141 rfl ?_
            refine J.mask [true, true, true, false, false, false] ?_
            exact ih (uI S45 141 (x2).toNatClampNeg r44) (x2 + (1 : Int32)) H
      · have H := ite_f H q11
        refine J.run b_W_look_69_1 k_W_look_69_1 rfl (show J w (d + 4) m_W_look (n0, z0, none, mk c z.2) 70 [some (.ref 138), some (.ref 34), some (.int x2), some (.long ((1 : Int64) <<< (x2.toInt64 &&& 63))), none, some (.int r8)] [.long ((1 : Int64) <<< (x2.toInt64 &&& 63)), .long (gJ S9 138 8), .ref 138] (mk c S9) from ?_)
        refine J.goto (tgt := 74) d_W_look_70 rfl ?_
        refine J.run b_W_look_74_6 k_W_look_74_6 rfl (And.intro (okO_st (S := S9) rfl) (And.intro (okO_st (S := (uJ S9 138 8 ((gJ S9 138 8) ||| ((1 : Int64) <<< (x2.toInt64 &&& 63))))) rfl) (show J w (d + 4) m_W_look (n0, z0, none, mk c z.2) 85 [some (.ref 138), some (.ref 34), some (.int x2), some (.long ((1 : Int64) <<< (x2.toInt64 &&& 63))), none, some (.int r8)] [.int r8, .long (gJ (uJ S9 138 8 ((gJ S9 138 8) ||| ((1 : Int64) <<< (x2.toInt64 &&& 63)))) 138 9), .ref 138] (mk c (uJ S9 138 8 ((gJ S9 138 8) ||| ((1 : Int64) <<< (x2.toInt64 &&& 63))))) from ?_)))
        refine J.zne (tgt := 100) d_W_look_85 rfl (fun q47 => ?_) (fun q47 => ?_)
        · have H := ite_f H q47
          refine J.run b_W_look_100_8 k_W_look_100_8 rfl (And.intro (okO_st (S := (uJ S9 138 8 ((gJ S9 138 8) ||| ((1 : Int64) <<< (x2.toInt64 &&& 63))))) rfl) (And.intro (okO_st (S := (uJ (uJ S9 138 8 ((gJ S9 138 8) ||| ((1 : Int64) <<< (x2.toInt64 &&& 63)))) 138 9 ((gJ (uJ S9 138 8 ((gJ S9 138 8) ||| ((1 : Int64) <<< (x2.toInt64 &&& 63)))) 138 9) ||| (0 : Int64)))) rfl) (show J w (d + 4) m_W_look (n0, z0, none, mk c z.2) 112 [some (.ref 138), some (.ref 34), some (.int x2), some (.long ((1 : Int64) <<< (x2.toInt64 &&& 63))), none, some (.int r8)] [.int x2, .ref 34, .int x2, .ref 139] (mk c (uJ (uJ S9 138 8 ((gJ S9 138 8) ||| ((1 : Int64) <<< (x2.toInt64 &&& 63)))) 138 9 ((gJ (uJ S9 138 8 ((gJ S9 138 8) ||| ((1 : Int64) <<< (x2.toInt64 &&& 63)))) 138 9) ||| (0 : Int64)))) from ?_)))
          obtain ⟨r48, S49, h50, H⟩ := bd_e H
          refine J.callV (y := m_T_beginOf) (av := [.int x2]) (rest := [.int x2, .ref 139]) (q := 34) l_W_72 d_W_look_112 (isC_st rfl rfl) (c_T_beginOf w (d + 1) c  (uJ (uJ S9 138 8 ((gJ S9 138 8) ||| ((1 : Int64) <<< (x2.toInt64 &&& 63)))) 138 9 ((gJ (uJ S9 138 8 ((gJ S9 138 8) ||| ((1 : Int64) <<< (x2.toInt64 &&& 63)))) 138 9) ||| (0 : Int64))) x2 h50) rfl (Nat.le_of_ble_eq_true rfl) ⟨Nat.le_refl _, Nat.le_refl _⟩ (show J w (d + 4) m_W_look (n0, z0, none, mk c z.2) 115 [some (.ref 138), some (.ref 34), some (.int x2), some (.long ((1 : Int64) <<< (x2.toInt64 &&& 63))), none, some (.int r8)] [.int r48, .int x2, .ref 139] (mk c S49) from ?_)
          obtain ⟨g51, H⟩ := ck_e H
          refine J.run b_W_look_115_6 k_W_look_115_6 rfl (And.intro (okB_st (S := S49) (n := 40) rfl g51) (And.intro (okO_st (S := (uI S49 139 (x2).toNatClampNeg r48)) rfl) (show J w (d + 4) m_W_look (n0, z0, none, mk c z.2) 123 [some (.ref 138), some (.ref 34), some (.int x2), some (.long ((1 : Int64) <<< (x2.toInt64 &&& 63))), none, some (.int r8)] [.int x2, .ref 34, .int x2, .ref 140] (mk c (uI S49 139 (x2).toNatClampNeg r48)) from ?_)))
          obtain ⟨r52, S53, h54, H⟩ := bd_e H
          refine J.callV (y := m_T_endOf) (av := [.int x2]) (rest := [.int x2, .ref 140]) (q := 34) l_W_76 d_W_look_123 (isC_st rfl rfl) (c_T_endOf w (d + 1) c  (uI S49 139 (x2).toNatClampNeg r48) x2 h54) rfl (Nat.le_of_ble_eq_true rfl) ⟨Nat.le_refl _, Nat.le_refl _⟩ (show J w (d + 4) m_W_look (n0, z0, none, mk c z.2) 126 [some (.ref 138), some (.ref 34), some (.int x2), some (.long ((1 : Int64) <<< (x2.toInt64 &&& 63))), none, some (.int r8)] [.int r52, .int x2, .ref 140] (mk c S53) from ?_)
          refine J.run b_W_look_126_6 k_W_look_126_6 rfl (And.intro (okB_st (S := S53) (n := 40) rfl g51) (And.intro (okO_st (S := (uI S53 140 (x2).toNatClampNeg r52)) rfl) (show J w (d + 4) m_W_look (n0, z0, none, mk c z.2) 134 [some (.ref 138), some (.ref 34), some (.int x2), some (.long ((1 : Int64) <<< (x2.toInt64 &&& 63))), none, some (.int r8)] [.int x2, .ref 34, .int x2, .ref 141] (mk c (uI S53 140 (x2).toNatClampNeg r52)) from ?_)))
          obtain ⟨r55, S56, h57, H⟩ := bd_e H
          refine J.callV (y := m_T_longOf) (av := [.int x2]) (rest := [.int x2, .ref 141]) (q := 34) l_W_79 d_W_look_134 (isC_st rfl rfl) (c_T_longOf w (d + 1) c  (uI S53 140 (x2).toNatClampNeg r52) x2 h57) rfl (Nat.le_of_ble_eq_true rfl) ⟨Nat.le_refl _, Nat.le_refl _⟩ (show J w (d + 4) m_W_look (n0, z0, none, mk c z.2) 137 [some (.ref 138), some (.ref 34), some (.int x2), some (.long ((1 : Int64) <<< (x2.toInt64 &&& 63))), none, some (.int r8)] [.int r55, .int x2, .ref 141] (mk c S56) from ?_)
          refine J.run b_W_look_137_2 k_W_look_137_2 rfl (And.intro (okB_st (S := S56) (n := 40) rfl g51) (show J w (d + 4) m_W_look (n0, z0, none, mk c z.2) 141 [some (.ref 138), some (.ref 34), some (.int (x2 + (1 : Int32))), some (.long ((1 : Int64) <<< (x2.toInt64 &&& 63))), none, some (.int r8)] [] (mk c (uI S56 141 (x2).toNatClampNeg r55)) from ?_))
          refine J.goto (tgt := 40) d_W_look_141 rfl ?_
          refine J.mask [true, true, true, false, false, false] ?_
          exact ih (uI S56 141 (x2).toNatClampNeg r55) (x2 + (1 : Int32)) H
        · have H := ite_t H q47
          refine J.run b_W_look_88_2 k_W_look_88_2 rfl (show J w (d + 4) m_W_look (n0, z0, none, mk c z.2) 90 [some (.ref 138), some (.ref 34), some (.int x2), some (.long ((1 : Int64) <<< (x2.toInt64 &&& 63))), none, some (.int r8)] [.int x2, .ref 34, .long (gJ (uJ S9 138 8 ((gJ S9 138 8) ||| ((1 : Int64) <<< (x2.toInt64 &&& 63)))) 138 9), .ref 138] (mk c (uJ S9 138 8 ((gJ S9 138 8) ||| ((1 : Int64) <<< (x2.toInt64 &&& 63))))) from ?_)
          obtain ⟨r58, S59, h60, H⟩ := bd_e H
          refine J.callV (y := m_T_hasWay) (av := [.int x2]) (rest := [.long (gJ (uJ S9 138 8 ((gJ S9 138 8) ||| ((1 : Int64) <<< (x2.toInt64 &&& 63)))) 138 9), .ref 138]) (q := 34) l_W_69 d_W_look_90 (isC_st rfl rfl) (c_T_hasWay w (d + 1) c  (uJ S9 138 8 ((gJ S9 138 8) ||| ((1 : Int64) <<< (x2.toInt64 &&& 63)))) x2 h60) rfl (Nat.le_of_ble_eq_true rfl) ⟨Nat.le_refl _, Nat.le_refl _⟩ (show J w (d + 4) m_W_look (n0, z0, none, mk c z.2) 93 [some (.ref 138), some (.ref 34), some (.int x2), some (.long ((1 : Int64) <<< (x2.toInt64 &&& 63))), none, some (.int r8)] [.int r58, .long (gJ (uJ S9 138 8 ((gJ S9 138 8) ||| ((1 : Int64) <<< (x2.toInt64 &&& 63)))) 138 9), .ref 138] (mk c S59) from ?_)
          refine J.zeq (tgt := 100) d_W_look_93 rfl (fun q61 => ?_) (fun q61 => ?_)
          · have H := ite_t H q61
            refine J.run b_W_look_100_8 k_W_look_100_8 rfl (And.intro (okO_st (S := S59) rfl) (And.intro (okO_st (S := (uJ S59 138 9 ((gJ (uJ S9 138 8 ((gJ S9 138 8) ||| ((1 : Int64) <<< (x2.toInt64 &&& 63)))) 138 9) ||| (0 : Int64)))) rfl) (show J w (d + 4) m_W_look (n0, z0, none, mk c z.2) 112 [some (.ref 138), some (.ref 34), some (.int x2), some (.long ((1 : Int64) <<< (x2.toInt64 &&& 63))), none, some (.int r8)] [.int x2, .ref 34, .int x2, .ref 139] (mk c (uJ S59 138 9 ((gJ (uJ S9 138 8 ((gJ S9 138 8) ||| ((1 : Int64) <<< (x2.toInt64 &&& 63)))) 138 9) ||| (0 : Int64)))) from ?_)))
            obtain ⟨r62, S63, h64, H⟩ := bd_e H
            refine J.callV (y := m_T_beginOf) (av := [.int x2]) (rest := [.int x2, .ref 139]) (q := 34) l_W_72 d_W_look_112 (isC_st rfl rfl) (c_T_beginOf w (d + 1) c  (uJ S59 138 9 ((gJ (uJ S9 138 8 ((gJ S9 138 8) ||| ((1 : Int64) <<< (x2.toInt64 &&& 63)))) 138 9) ||| (0 : Int64))) x2 h64) rfl (Nat.le_of_ble_eq_true rfl) ⟨Nat.le_refl _, Nat.le_refl _⟩ (show J w (d + 4) m_W_look (n0, z0, none, mk c z.2) 115 [some (.ref 138), some (.ref 34), some (.int x2), some (.long ((1 : Int64) <<< (x2.toInt64 &&& 63))), none, some (.int r8)] [.int r62, .int x2, .ref 139] (mk c S63) from ?_)
            obtain ⟨g65, H⟩ := ck_e H
            refine J.run b_W_look_115_6 k_W_look_115_6 rfl (And.intro (okB_st (S := S63) (n := 40) rfl g65) (And.intro (okO_st (S := (uI S63 139 (x2).toNatClampNeg r62)) rfl) (show J w (d + 4) m_W_look (n0, z0, none, mk c z.2) 123 [some (.ref 138), some (.ref 34), some (.int x2), some (.long ((1 : Int64) <<< (x2.toInt64 &&& 63))), none, some (.int r8)] [.int x2, .ref 34, .int x2, .ref 140] (mk c (uI S63 139 (x2).toNatClampNeg r62)) from ?_)))
            obtain ⟨r66, S67, h68, H⟩ := bd_e H
            refine J.callV (y := m_T_endOf) (av := [.int x2]) (rest := [.int x2, .ref 140]) (q := 34) l_W_76 d_W_look_123 (isC_st rfl rfl) (c_T_endOf w (d + 1) c  (uI S63 139 (x2).toNatClampNeg r62) x2 h68) rfl (Nat.le_of_ble_eq_true rfl) ⟨Nat.le_refl _, Nat.le_refl _⟩ (show J w (d + 4) m_W_look (n0, z0, none, mk c z.2) 126 [some (.ref 138), some (.ref 34), some (.int x2), some (.long ((1 : Int64) <<< (x2.toInt64 &&& 63))), none, some (.int r8)] [.int r66, .int x2, .ref 140] (mk c S67) from ?_)
            refine J.run b_W_look_126_6 k_W_look_126_6 rfl (And.intro (okB_st (S := S67) (n := 40) rfl g65) (And.intro (okO_st (S := (uI S67 140 (x2).toNatClampNeg r66)) rfl) (show J w (d + 4) m_W_look (n0, z0, none, mk c z.2) 134 [some (.ref 138), some (.ref 34), some (.int x2), some (.long ((1 : Int64) <<< (x2.toInt64 &&& 63))), none, some (.int r8)] [.int x2, .ref 34, .int x2, .ref 141] (mk c (uI S67 140 (x2).toNatClampNeg r66)) from ?_)))
            obtain ⟨r69, S70, h71, H⟩ := bd_e H
            refine J.callV (y := m_T_longOf) (av := [.int x2]) (rest := [.int x2, .ref 141]) (q := 34) l_W_79 d_W_look_134 (isC_st rfl rfl) (c_T_longOf w (d + 1) c  (uI S67 140 (x2).toNatClampNeg r66) x2 h71) rfl (Nat.le_of_ble_eq_true rfl) ⟨Nat.le_refl _, Nat.le_refl _⟩ (show J w (d + 4) m_W_look (n0, z0, none, mk c z.2) 137 [some (.ref 138), some (.ref 34), some (.int x2), some (.long ((1 : Int64) <<< (x2.toInt64 &&& 63))), none, some (.int r8)] [.int r69, .int x2, .ref 141] (mk c S70) from ?_)
            refine J.run b_W_look_137_2 k_W_look_137_2 rfl (And.intro (okB_st (S := S70) (n := 40) rfl g65) (show J w (d + 4) m_W_look (n0, z0, none, mk c z.2) 141 [some (.ref 138), some (.ref 34), some (.int (x2 + (1 : Int32))), some (.long ((1 : Int64) <<< (x2.toInt64 &&& 63))), none, some (.int r8)] [] (mk c (uI S70 141 (x2).toNatClampNeg r69)) from ?_))
            refine J.goto (tgt := 40) d_W_look_141 rfl ?_
            refine J.mask [true, true, true, false, false, false] ?_
            exact ih (uI S70 141 (x2).toNatClampNeg r69) (x2 + (1 : Int32)) H
          · have H := ite_f H q61
            refine J.run b_W_look_96_1 k_W_look_96_1 rfl (show J w (d + 4) m_W_look (n0, z0, none, mk c z.2) 97 [some (.ref 138), some (.ref 34), some (.int x2), some (.long ((1 : Int64) <<< (x2.toInt64 &&& 63))), none, some (.int r8)] [.long ((1 : Int64) <<< (x2.toInt64 &&& 63)), .long (gJ (uJ S9 138 8 ((gJ S9 138 8) ||| ((1 : Int64) <<< (x2.toInt64 &&& 63)))) 138 9), .ref 138] (mk c S59) from ?_)
            refine J.goto (tgt := 101) d_W_look_97 rfl ?_
            refine J.run b_W_look_101_7 k_W_look_101_7 rfl (And.intro (okO_st (S := S59) rfl) (And.intro (okO_st (S := (uJ S59 138 9 ((gJ (uJ S9 138 8 ((gJ S9 138 8) ||| ((1 : Int64) <<< (x2.toInt64 &&& 63)))) 138 9) ||| ((1 : Int64) <<< (x2.toInt64 &&& 63))))) rfl) (show J w (d + 4) m_W_look (n0, z0, none, mk c z.2) 112 [some (.ref 138), some (.ref 34), some (.int x2), some (.long ((1 : Int64) <<< (x2.toInt64 &&& 63))), none, some (.int r8)] [.int x2, .ref 34, .int x2, .ref 139] (mk c (uJ S59 138 9 ((gJ (uJ S9 138 8 ((gJ S9 138 8) ||| ((1 : Int64) <<< (x2.toInt64 &&& 63)))) 138 9) ||| ((1 : Int64) <<< (x2.toInt64 &&& 63))))) from ?_)))
            obtain ⟨r72, S73, h74, H⟩ := bd_e H
            refine J.callV (y := m_T_beginOf) (av := [.int x2]) (rest := [.int x2, .ref 139]) (q := 34) l_W_72 d_W_look_112 (isC_st rfl rfl) (c_T_beginOf w (d + 1) c  (uJ S59 138 9 ((gJ (uJ S9 138 8 ((gJ S9 138 8) ||| ((1 : Int64) <<< (x2.toInt64 &&& 63)))) 138 9) ||| ((1 : Int64) <<< (x2.toInt64 &&& 63)))) x2 h74) rfl (Nat.le_of_ble_eq_true rfl) ⟨Nat.le_refl _, Nat.le_refl _⟩ (show J w (d + 4) m_W_look (n0, z0, none, mk c z.2) 115 [some (.ref 138), some (.ref 34), some (.int x2), some (.long ((1 : Int64) <<< (x2.toInt64 &&& 63))), none, some (.int r8)] [.int r72, .int x2, .ref 139] (mk c S73) from ?_)
            obtain ⟨g75, H⟩ := ck_e H
            refine J.run b_W_look_115_6 k_W_look_115_6 rfl (And.intro (okB_st (S := S73) (n := 40) rfl g75) (And.intro (okO_st (S := (uI S73 139 (x2).toNatClampNeg r72)) rfl) (show J w (d + 4) m_W_look (n0, z0, none, mk c z.2) 123 [some (.ref 138), some (.ref 34), some (.int x2), some (.long ((1 : Int64) <<< (x2.toInt64 &&& 63))), none, some (.int r8)] [.int x2, .ref 34, .int x2, .ref 140] (mk c (uI S73 139 (x2).toNatClampNeg r72)) from ?_)))
            obtain ⟨r76, S77, h78, H⟩ := bd_e H
            refine J.callV (y := m_T_endOf) (av := [.int x2]) (rest := [.int x2, .ref 140]) (q := 34) l_W_76 d_W_look_123 (isC_st rfl rfl) (c_T_endOf w (d + 1) c  (uI S73 139 (x2).toNatClampNeg r72) x2 h78) rfl (Nat.le_of_ble_eq_true rfl) ⟨Nat.le_refl _, Nat.le_refl _⟩ (show J w (d + 4) m_W_look (n0, z0, none, mk c z.2) 126 [some (.ref 138), some (.ref 34), some (.int x2), some (.long ((1 : Int64) <<< (x2.toInt64 &&& 63))), none, some (.int r8)] [.int r76, .int x2, .ref 140] (mk c S77) from ?_)
            refine J.run b_W_look_126_6 k_W_look_126_6 rfl (And.intro (okB_st (S := S77) (n := 40) rfl g75) (And.intro (okO_st (S := (uI S77 140 (x2).toNatClampNeg r76)) rfl) (show J w (d + 4) m_W_look (n0, z0, none, mk c z.2) 134 [some (.ref 138), some (.ref 34), some (.int x2), some (.long ((1 : Int64) <<< (x2.toInt64 &&& 63))), none, some (.int r8)] [.int x2, .ref 34, .int x2, .ref 141] (mk c (uI S77 140 (x2).toNatClampNeg r76)) from ?_)))
            obtain ⟨r79, S80, h81, H⟩ := bd_e H
            refine J.callV (y := m_T_longOf) (av := [.int x2]) (rest := [.int x2, .ref 141]) (q := 34) l_W_79 d_W_look_134 (isC_st rfl rfl) (c_T_longOf w (d + 1) c  (uI S77 140 (x2).toNatClampNeg r76) x2 h81) rfl (Nat.le_of_ble_eq_true rfl) ⟨Nat.le_refl _, Nat.le_refl _⟩ (show J w (d + 4) m_W_look (n0, z0, none, mk c z.2) 137 [some (.ref 138), some (.ref 34), some (.int x2), some (.long ((1 : Int64) <<< (x2.toInt64 &&& 63))), none, some (.int r8)] [.int r79, .int x2, .ref 141] (mk c S80) from ?_)
            refine J.run b_W_look_137_2 k_W_look_137_2 rfl (And.intro (okB_st (S := S80) (n := 40) rfl g75) (show J w (d + 4) m_W_look (n0, z0, none, mk c z.2) 141 [some (.ref 138), some (.ref 34), some (.int (x2 + (1 : Int32))), some (.long ((1 : Int64) <<< (x2.toInt64 &&& 63))), none, some (.int r8)] [] (mk c (uI S80 141 (x2).toNatClampNeg r79)) from ?_))
            refine J.goto (tgt := 40) d_W_look_141 rfl ?_
            refine J.mask [true, true, true, false, false, false] ?_
            exact ih (uI S80 141 (x2).toNatClampNeg r79) (x2 + (1 : Int32)) H
theorem c_W_look_34 (w : Wd) (d : Nat) (c : cx)   (S : hs)   {z : Int32 × hs} (H : f_W_look_34 S = some z) : Cl w (d + 4) m_W_look [.ref 138, .ref 34] (mk c S) (none) (mk c z.2) := by
  refine Cl.of (Nat.le_refl _) (Nat.le_refl _) (by decide +kernel) (Nat.le_of_ble_eq_true rfl) ?_
  unfold f_W_look_34 at H
  generalize hN (mk c S) = n0
  generalize hZ (mk c S) = z0
  show J w (d + 4) m_W_look (n0, z0, none, mk c z.2) 0 [some (.ref 138), some (.ref 34), none, none, none, none] [] (mk c S)
  refine J.run b_W_look_0_12 k_W_look_0_12 rfl (And.intro (okO_st (S := S) rfl) (And.intro (okO_st (S := (uJ S 138 8 (0 : Int64))) rfl) (And.intro (okO_st (S := (uJ (uJ S 138 8 (0 : Int64)) 138 9 (0 : Int64))) rfl) (show J w (d + 4) m_W_look (n0, z0, none, mk c z.2) 19 [some (.ref 138), some (.ref 34), none, none, none, none] [.int (40 : Int32), .int ((2 : Int32) * (gI (uJ (uJ S 138 8 (0 : Int64)) 138 9 (0 : Int64)) 34 6)), .ref 138] (mk c (uJ (uJ S 138 8 (0 : Int64)) 138 9 (0 : Int64))) from ?_))))
  obtain ⟨r1, S2, h3, H⟩ := bd_e H
  refine J.callS (y := m_Ma_min) (av := [.int ((2 : Int32) * (gI (uJ (uJ S 138 8 (0 : Int64)) 138 9 (0 : Int64)) 34 6)), .int (40 : Int32)]) (rest := [.ref 138]) l_W_52 d_W_look_19 (c_Ma_min w (d + 2) c  (uJ (uJ S 138 8 (0 : Int64)) 138 9 (0 : Int64)) ((2 : Int32) * (gI (uJ (uJ S 138 8 (0 : Int64)) 138 9 (0 : Int64)) 34 6)) (40 : Int32) h3) rfl (Nat.le_of_ble_eq_true rfl) ⟨Nat.le_refl _, Nat.le_refl _⟩ (show J w (d + 4) m_W_look (n0, z0, none, mk c z.2) 22 [some (.ref 138), some (.ref 34), none, none, none, none] [.int r1, .ref 138] (mk c S2) from ?_)
  refine J.run b_W_look_22_5 k_W_look_22_5 rfl (And.intro (okO_st (S := S2) rfl) (And.intro (okO_st (S := (uI S2 138 10 r1)) rfl) (show J w (d + 4) m_W_look (n0, z0, none, mk c z.2) 32 [some (.ref 138), some (.ref 34), none, none, none, none] [.int (12 : Int32), .int (gI (uI S2 138 10 r1) 34 5), .ref 138] (mk c (uI S2 138 10 r1)) from ?_)))
  obtain ⟨r4, S5, h6, H⟩ := bd_e H
  refine J.callS (y := m_Ma_min) (av := [.int (gI (uI S2 138 10 r1) 34 5), .int (12 : Int32)]) (rest := [.ref 138]) l_W_52 d_W_look_32 (c_Ma_min w (d + 2) c  (uI S2 138 10 r1) (gI (uI S2 138 10 r1) 34 5) (12 : Int32) h6) rfl (Nat.le_of_ble_eq_true rfl) ⟨Nat.le_refl _, Nat.le_refl _⟩ (show J w (d + 4) m_W_look (n0, z0, none, mk c z.2) 35 [some (.ref 138), some (.ref 34), none, none, none, none] [.int r4, .ref 138] (mk c S5) from ?_)
  refine J.run b_W_look_35_3 k_W_look_35_3 rfl (And.intro (okO_st (S := S5) rfl) (show J w (d + 4) m_W_look (n0, z0, none, mk c z.2) 40 [some (.ref 138), some (.ref 34), some (.int (0 : Int32)), none, none, none] [] (mk c (uI S5 138 11 r4)) from ?_))
  refine J.mask [true, true, true, false, false, false] ?_
  refine lo_W_look_34_40 w d c   1000 (uI S5 138 11 r4) (0 : Int32) H
def b_W_prepare_0_2 : List Ins := [(.aload_n 0, 0, 0, 0), (.aload_n 1, 0, 0, 0)]
theorem k_W_prepare_0_2 : bok m_W_prepare 0 b_W_prepare_0_2 = true := by decide +kernel
def b_W_prepare_5_2 : List Ins := [(.iconst (0), 0, 0, 0), (.istore 4, 0, 0, 0)]
theorem k_W_prepare_5_2 : bok m_W_prepare 5 b_W_prepare_5_2 = true := by decide +kernel
def b_W_prepare_8_3 : List Ins := [(.iload 4, 0, 0, 0), (.aload_n 0, 0, 0, 0), (.getfield 58, 4, 10, 0)]
theorem k_W_prepare_8_3 : bok m_W_prepare 8 b_W_prepare_8_3 = true := by decide +kernel
def b_W_prepare_17_4 : List Ins := [(.lconst 0, 0, 0, 0), (.lstore 5, 0, 0, 0), (.iconst (0), 0, 0, 0), (.istore 7, 0, 0, 0)]
theorem k_W_prepare_17_4 : bok m_W_prepare 17 b_W_prepare_17_4 = true := by decide +kernel
def b_W_prepare_23_3 : List Ins := [(.iload 7, 0, 0, 0), (.aload_n 0, 0, 0, 0), (.getfield 58, 4, 10, 0)]
theorem k_W_prepare_23_3 : bok m_W_prepare 23 b_W_prepare_23_3 = true := by decide +kernel
def b_W_prepare_32_8 : List Ins := [(.aload_n 0, 0, 0, 0), (.getfield 15, 4, 1, 2), (.iload 4, 0, 0, 0), (.iaload, 0, 0, 0), (.aload_n 0, 0, 0, 0), (.getfield 9, 4, 0, 2), (.iload 7, 0, 0, 0), (.iaload, 0, 0, 0)]
theorem k_W_prepare_32_8 : bok m_W_prepare 32 b_W_prepare_32_8 = true := by decide +kernel
def b_W_prepare_95_1 : List Ins := [(.iinc 7 (1), 0, 0, 0)]
theorem k_W_prepare_95_1 : bok m_W_prepare 95 b_W_prepare_95_1 = true := by decide +kernel
def b_W_prepare_49_2 : List Ins := [(.iload_n 3, 0, 0, 0), (.iconst (-1), 0, 0, 0)]
theorem k_W_prepare_49_2 : bok m_W_prepare 49 b_W_prepare_49_2 = true := by decide +kernel
def b_W_prepare_66_4 : List Ins := [(.aload_n 1, 0, 0, 0), (.iload 4, 0, 0, 0), (.iload 7, 0, 0, 0), (.iload_n 3, 0, 0, 0)]
theorem k_W_prepare_66_4 : bok m_W_prepare 66 b_W_prepare_66_4 = true := by decide +kernel
def b_W_prepare_75_3 : List Ins := [(.istore 8, 0, 0, 0), (.lload 5, 0, 0, 0), (.iload 8, 0, 0, 0)]
theorem k_W_prepare_75_3 : bok m_W_prepare 75 b_W_prepare_75_3 = true := by decide +kernel
def b_W_prepare_91_4 : List Ins := [(.lconst 0, 0, 0, 0), (.lor, 0, 0, 0), (.lstore 5, 0, 0, 0), (.iinc 7 (1), 0, 0, 0)]
theorem k_W_prepare_91_4 : bok m_W_prepare 91 b_W_prepare_91_4 = true := by decide +kernel
def b_W_prepare_84_3 : List Ins := [(.lconst 1, 0, 0, 0), (.iload 7, 0, 0, 0), (.lshl, 0, 0, 0)]
theorem k_W_prepare_84_3 : bok m_W_prepare 84 b_W_prepare_84_3 = true := by decide +kernel
def b_W_prepare_92_3 : List Ins := [(.lor, 0, 0, 0), (.lstore 5, 0, 0, 0), (.iinc 7 (1), 0, 0, 0)]
theorem k_W_prepare_92_3 : bok m_W_prepare 92 b_W_prepare_92_3 = true := by decide +kernel
def b_W_prepare_54_4 : List Ins := [(.aload_n 1, 0, 0, 0), (.iload 4, 0, 0, 0), (.iload 7, 0, 0, 0), (.iload_n 2, 0, 0, 0)]
theorem k_W_prepare_54_4 : bok m_W_prepare 54 b_W_prepare_54_4 = true := by decide +kernel
def b_W_prepare_101_6 : List Ins := [(.aload_n 0, 0, 0, 0), (.getfield 21, 4, 3, 2), (.iload 4, 0, 0, 0), (.lload 5, 0, 0, 0), (.lastore, 0, 0, 0), (.iinc 4 (1), 0, 0, 0)]
theorem k_W_prepare_101_6 : bok m_W_prepare 101 b_W_prepare_101_6 = true := by decide +kernel
theorem d_W_prepare_2 : decode m_W_prepare.2.1 2 = .ok (.invokevirtual 82, 3) := by decide +kernel
theorem d_W_prepare_14 : decode m_W_prepare.2.1 14 = .ok (.if_icmp .ge (102), 3) := by decide +kernel
theorem d_W_prepare_116 : decode m_W_prepare.2.1 116 = .ok (.return_, 1) := by decide +kernel
theorem d_W_prepare_29 : decode m_W_prepare.2.1 29 = .ok (.if_icmp .ge (72), 3) := by decide +kernel
theorem d_W_prepare_46 : decode m_W_prepare.2.1 46 = .ok (.if_icmp .ne (49), 3) := by decide +kernel
theorem d_W_prepare_98 : decode m_W_prepare.2.1 98 = .ok (.goto (-75), 3) := by decide +kernel
theorem d_W_prepare_51 : decode m_W_prepare.2.1 51 = .ok (.if_icmp .ne (15), 3) := by decide +kernel
theorem d_W_prepare_72 : decode m_W_prepare.2.1 72 = .ok (.invokevirtual 90, 3) := by decide +kernel
theorem d_W_prepare_81 : decode m_W_prepare.2.1 81 = .ok (.ifCond .eq (10), 3) := by decide +kernel
theorem d_W_prepare_88 : decode m_W_prepare.2.1 88 = .ok (.goto (4), 3) := by decide +kernel
theorem d_W_prepare_60 : decode m_W_prepare.2.1 60 = .ok (.invokevirtual 86, 3) := by decide +kernel
theorem d_W_prepare_63 : decode m_W_prepare.2.1 63 = .ok (.goto (12), 3) := by decide +kernel
theorem d_W_prepare_113 : decode m_W_prepare.2.1 113 = .ok (.goto (-105), 3) := by decide +kernel
def lp_W_prepare_34_23 (x2 : Int32) (x3 : Int32) (x4 : Int32)  (K0 : hs → Int64 → Int32 → Option (Int32 × hs)) : Nat → hs → Int64 → Int32 → Option (Int32 × hs)
  | 0, _, _, _ => none
  | n + 1, S, x5, x7 => (if (gI S 138 10) ≤ x7 then K0 S x5 x7 else ck (inb x4 40) (ck (inb x7 40) ((if (gI S 140 (x4).toNatClampNeg) = (gI S 139 (x7).toNatClampNeg) then (if x3 = (-1 : Int32) then bd (f_T_mayGo  S x4 x7 x2) fun r14 S15 => (if r14 = 0 then lp_W_prepare_34_23 x2 x3 x4 K0 n S15 (x5 ||| (0 : Int64)) (x7 + (1 : Int32)) else lp_W_prepare_34_23 x2 x3 x4 K0 n S15 (x5 ||| ((1 : Int64) <<< (x7.toInt64 &&& 63))) (x7 + (1 : Int32))) else bd (f_T_isOneOf  S x4 x7 x3) fun r10 S11 => (if r10 = 0 then lp_W_prepare_34_23 x2 x3 x4 K0 n S11 (x5 ||| (0 : Int64)) (x7 + (1 : Int32)) else lp_W_prepare_34_23 x2 x3 x4 K0 n S11 (x5 ||| ((1 : Int64) <<< (x7.toInt64 &&& 63))) (x7 + (1 : Int32)))) else lp_W_prepare_34_23 x2 x3 x4 K0 n S x5 (x7 + (1 : Int32))))))
def lp_W_prepare_34_8 (x2 : Int32) (x3 : Int32)   : Nat → hs → Int32 → Option (Int32 × hs)
  | 0, _, _ => none
  | n + 1, S, x4 => (if (gI S 138 10) ≤ x4 then some ((0 : Int32), S) else lp_W_prepare_34_23 x2 x3 x4 (fun (S18 : hs) (y19 : Int64) (y20 : Int32) => ck (inb x4 40) (lp_W_prepare_34_8 x2 x3 n (uJ S18 142 (x4).toNatClampNeg y19) (x4 + (1 : Int32)))) 1000 S (0 : Int64) (0 : Int32))
def f_W_prepare_34  (S : hs) (x2 : Int32) (x3 : Int32) : Option (Int32 × hs) := bd (f_W_look_34  S) fun r1 S2 => lp_W_prepare_34_8 x2 x3 1000 S2 (0 : Int32)
theorem lo_W_prepare_34_23 (w : Wd) (d : Nat) (c : cx) {n0 z0 : Nat} {z : Int32 × hs}  {K0 : hs → Int64 → Int32 → Option (Int32 × hs)} (x2 : Int32) (x3 : Int32) (x4 : Int32)   (hK0 : ∀ (S : hs) (x5 : Int64) (x7 : Int32), K0 S x5 x7 = some z → J w (d + 6) m_W_prepare (n0, z0, none, mk c z.2) 101 [some (.ref 138), some (.ref 34), some (.int x2), some (.int x3), some (.int x4), some (.long x5), none, none, none] [] (mk c S)) :
    ∀ (n : Nat) (S : hs) (x5 : Int64) (x7 : Int32), lp_W_prepare_34_23 x2 x3 x4 K0 n S x5 x7 = some z → J w (d + 6) m_W_prepare (n0, z0, none, mk c z.2) 23 [some (.ref 138), some (.ref 34), some (.int x2), some (.int x3), some (.int x4), some (.long x5), none, some (.int x7), none] [] (mk c S) := by
  intro n
  induction n with
  | zero => intro S x5 x7 H; cases H
  | succ n ih =>
    intro S x5 x7 H
    rw [lp_W_prepare_34_23] at H
    refine J.run b_W_prepare_23_3 k_W_prepare_23_3 rfl (And.intro (okO_st (S := S) rfl) (show J w (d + 6) m_W_prepare (n0, z0, none, mk c z.2) 29 [some (.ref 138), some (.ref 34), some (.int x2), some (.int x3), some (.int x4), some (.long x5), none, some (.int x7), none] [.int (gI S 138 10), .int x7] (mk c S) from ?_))
    refine J.cge (tgt := 101) d_W_prepare_29 rfl (fun q5 => ?_) (fun q5 => ?_)
    · have H := ite_t H q5
      refine J.mask [true, true, true, true, true, true, false, false, false] ?_
      exact hK0 S x5 x7 H
    · have H := ite_f H q5
      obtain ⟨g6, H⟩ := ck_e H
      obtain ⟨g7, H⟩ := ck_e H
      refine J.run b_W_prepare_32_8 k_W_prepare_32_8 rfl (And.intro (okO_st (S := S) rfl) (And.intro (okA_st (S := S) (n := 40) rfl g6) (And.intro (okO_st (S := S) rfl) (And.intro (okA_st (S := S) (n := 40) rfl g7) (show J w (d + 6) m_W_prepare (n0, z0, none, mk c z.2) 46 [some (.ref 138), some (.ref 34), some (.int x2), some (.int x3), some (.int x4), some (.long x5), none, some (.int x7), none] [.int (gI S 139 (x7).toNatClampNeg), .int (gI S 140 (x4).toNatClampNeg)] (mk c S) from ?_)))))
      refine J.cne (tgt := 95) d_W_prepare_46 rfl (fun q8 => ?_) (fun q8 => ?_)
      · have H := ite_f H q8
        refine J.run b_W_prepare_95_1 k_W_prepare_95_1 rfl (show J w (d + 6) m_W_prepare (n0, z0, none, mk c z.2) 98 [some (.ref 138), some (.ref 34), some (.int x2), some (.int x3), some (.int x4), some (.long x5), none, some (.int (x7 + (1 : Int32))), none] [] (mk c S) from ?_)
        refine J.goto (tgt := 23) d_W_prepare_98 rfl ?_
        refine J.mask [true, true, true, true, true, true, false, true, false] ?_
        exact ih S x5 (x7 + (1 : Int32)) H
      · have H := ite_t H q8
        refine J.run b_W_prepare_49_2 k_W_prepare_49_2 rfl (show J w (d + 6) m_W_prepare (n0, z0, none, mk c z.2) 51 [some (.ref 138), some (.ref 34), some (.int x2), some (.int x3), some (.int x4), some (.long x5), none, some (.int x7), none] [.int (-1 : Int32), .int x3] (mk c S) from ?_)
        refine J.cne (tgt := 66) d_W_prepare_51 rfl (fun q9 => ?_) (fun q9 => ?_)
        · have H := ite_f H q9
          refine J.run b_W_prepare_66_4 k_W_prepare_66_4 rfl (show J w (d + 6) m_W_prepare (n0, z0, none, mk c z.2) 72 [some (.ref 138), some (.ref 34), some (.int x2), some (.int x3), some (.int x4), some (.long x5), none, some (.int x7), none] [.int x3, .int x7, .int x4, .ref 34] (mk c S) from ?_)
          obtain ⟨r10, S11, h12, H⟩ := bd_e H
          refine J.callV (y := m_T_isOneOf) (av := [.int x4, .int x7, .int x3]) (rest := []) (q := 34) l_W_90 d_W_prepare_72 (isC_st rfl rfl) (c_T_isOneOf w (d + 1) c  S x4 x7 x3 h12) rfl (Nat.le_of_ble_eq_true rfl) ⟨Nat.le_refl _, Nat.le_refl _⟩ (show J w (d + 6) m_W_prepare (n0, z0, none, mk c z.2) 75 [some (.ref 138), some (.ref 34), some (.int x2), some (.int x3), some (.int x4), some (.long x5), none, some (.int x7), none] [.int r10] (mk c S11) from ?_)
          refine J.run b_W_prepare_75_3 k_W_prepare_75_3 rfl (show J w (d + 6) m_W_prepare (n0, z0, none, mk c z.2) 81 [some (.ref 138), some (.ref 34), some (.int x2), some (.int x3), some (.int x4), some (.long x5), none, some (.int x7), some (.int r10)] [.int r10, .long x5] (mk c S11) from ?_)
          refine J.zeq (tgt := 91) d_W_prepare_81 rfl (fun q13 => ?_) (fun q13 => ?_)
          · have H := ite_t H q13
            refine J.run b_W_prepare_91_4 k_W_prepare_91_4 rfl (show J w (d + 6) m_W_prepare (n0, z0, none, mk c z.2) 98 [some (.ref 138), some (.ref 34), some (.int x2), some (.int x3), some (.int x4), some (.long (x5 ||| (0 : Int64))), none, some (.int (x7 + (1 : Int32))), some (.int r10)] [] (mk c S11) from ?_)
            refine J.goto (tgt := 23) d_W_prepare_98 rfl ?_
            refine J.mask [true, true, true, true, true, true, false, true, false] ?_
            exact ih S11 (x5 ||| (0 : Int64)) (x7 + (1 : Int32)) H
          · have H := ite_f H q13
            refine J.run b_W_prepare_84_3 k_W_prepare_84_3 rfl (show J w (d + 6) m_W_prepare (n0, z0, none, mk c z.2) 88 [some (.ref 138), some (.ref 34), some (.int x2), some (.int x3), some (.int x4), some (.long x5), none, some (.int x7), some (.int r10)] [.long ((1 : Int64) <<< (x7.toInt64 &&& 63)), .long x5] (mk c S11) from ?_)
            refine J.goto (tgt := 92) d_W_prepare_88 rfl ?_
            refine J.run b_W_prepare_92_3 k_W_prepare_92_3 rfl (show J w (d + 6) m_W_prepare (n0, z0, none, mk c z.2) 98 [some (.ref 138), some (.ref 34), some (.int x2), some (.int x3), some (.int x4), some (.long (x5 ||| ((1 : Int64) <<< (x7.toInt64 &&& 63)))), none, some (.int (x7 + (1 : Int32))), some (.int r10)] [] (mk c S11) from ?_)
            refine J.goto (tgt := 23) d_W_prepare_98 rfl ?_
            refine J.mask [true, true, true, true, true, true, false, true, false] ?_
            exact ih S11 (x5 ||| ((1 : Int64) <<< (x7.toInt64 &&& 63))) (x7 + (1 : Int32)) H
        · have H := ite_t H q9
          refine J.run b_W_prepare_54_4 k_W_prepare_54_4 rfl (show J w (d + 6) m_W_prepare (n0, z0, none, mk c z.2) 60 [some (.ref 138), some (.ref 34), some (.int x2), some (.int x3), some (.int x4), some (.long x5), none, some (.int x7), none] [.int x2, .int x7, .int x4, .ref 34] (mk c S) from ?_)
          obtain ⟨r14, S15, h16, H⟩ := bd_e H
          refine J.callV (y := m_T_mayGo) (av := [.int x4, .int x7, .int x2]) (rest := []) (q := 34) l_W_86 d_W_prepare_60 (isC_st rfl rfl) (c_T_mayGo w (d + 0) c  S x4 x7 x2 h16) rfl (Nat.le_of_ble_eq_true rfl) ⟨Nat.le_refl _, Nat.le_refl _⟩ (show J w (d + 6) m_W_prepare (n0, z0, none, mk c z.2) 63 [some (.ref 138), some (.ref 34), some (.int x2), some (.int x3), some (.int x4), some (.long x5), none, some (.int x7), none] [.int r14] (mk c S15) from ?_)
          refine J.goto (tgt := 75) d_W_prepare_63 rfl ?_
          refine J.run b_W_prepare_75_3 k_W_prepare_75_3 rfl (show J w (d + 6) m_W_prepare (n0, z0, none, mk c z.2) 81 [some (.ref 138), some (.ref 34), some (.int x2), some (.int x3), some (.int x4), some (.long x5), none, some (.int x7), some (.int r14)] [.int r14, .long x5] (mk c S15) from ?_)
          refine J.zeq (tgt := 91) d_W_prepare_81 rfl (fun q17 => ?_) (fun q17 => ?_)
          · have H := ite_t H q17
            refine J.run b_W_prepare_91_4 k_W_prepare_91_4 rfl (show J w (d + 6) m_W_prepare (n0, z0, none, mk c z.2) 98 [some (.ref 138), some (.ref 34), some (.int x2), some (.int x3), some (.int x4), some (.long (x5 ||| (0 : Int64))), none, some (.int (x7 + (1 : Int32))), some (.int r14)] [] (mk c S15) from ?_)
            refine J.goto (tgt := 23) d_W_prepare_98 rfl ?_
            refine J.mask [true, true, true, true, true, true, false, true, false] ?_
            exact ih S15 (x5 ||| (0 : Int64)) (x7 + (1 : Int32)) H
          · have H := ite_f H q17
            refine J.run b_W_prepare_84_3 k_W_prepare_84_3 rfl (show J w (d + 6) m_W_prepare (n0, z0, none, mk c z.2) 88 [some (.ref 138), some (.ref 34), some (.int x2), some (.int x3), some (.int x4), some (.long x5), none, some (.int x7), some (.int r14)] [.long ((1 : Int64) <<< (x7.toInt64 &&& 63)), .long x5] (mk c S15) from ?_)
            refine J.goto (tgt := 92) d_W_prepare_88 rfl ?_
            refine J.run b_W_prepare_92_3 k_W_prepare_92_3 rfl (show J w (d + 6) m_W_prepare (n0, z0, none, mk c z.2) 98 [some (.ref 138), some (.ref 34), some (.int x2), some (.int x3), some (.int x4), some (.long (x5 ||| ((1 : Int64) <<< (x7.toInt64 &&& 63)))), none, some (.int (x7 + (1 : Int32))), some (.int r14)] [] (mk c S15) from ?_)
            refine J.goto (tgt := 23) d_W_prepare_98 rfl ?_
            refine J.mask [true, true, true, true, true, true, false, true, false] ?_
            exact ih S15 (x5 ||| ((1 : Int64) <<< (x7.toInt64 &&& 63))) (x7 + (1 : Int32)) H
theorem lo_W_prepare_34_8 (w : Wd) (d : Nat) (c : cx) {n0 z0 : Nat} {z : Int32 × hs}   (x2 : Int32) (x3 : Int32)    :
    ∀ (n : Nat) (S : hs) (x4 : Int32), lp_W_prepare_34_8 x2 x3 n S x4 = some z → J w (d + 6) m_W_prepare (n0, z0, none, mk c z.2) 8 [some (.ref 138), some (.ref 34), some (.int x2), some (.int x3), some (.int x4), none, none, none, none] [] (mk c S) := by
  intro n
  induction n with
  | zero => intro S x4 H; cases H
  | succ n ih =>
    intro S x4 H
    rw [lp_W_prepare_34_8] at H
    refine J.run b_W_prepare_8_3 k_W_prepare_8_3 rfl (And.intro (okO_st (S := S) rfl) (show J w (d + 6) m_W_prepare (n0, z0, none, mk c z.2) 14 [some (.ref 138), some (.ref 34), some (.int x2), some (.int x3), some (.int x4), none, none, none, none] [.int (gI S 138 10), .int x4] (mk c S) from ?_))
    refine J.cge (tgt := 116) d_W_prepare_14 rfl (fun q4 => ?_) (fun q4 => ?_)
    · have H := ite_t H q4
      obtain rfl := some_e H
      exact J.vret d_W_prepare_116 rfl rfl
    · have H := ite_f H q4
      refine J.run b_W_prepare_17_4 k_W_prepare_17_4 rfl (show J w (d + 6) m_W_prepare (n0, z0, none, mk c z.2) 23 [some (.ref 138), some (.ref 34), some (.int x2), some (.int x3), some (.int x4), some (.long (0 : Int64)), none, some (.int (0 : Int32)), none] [] (mk c S) from ?_)
      refine J.mask [true, true, true, true, true, true, false, true, false] ?_
      refine lo_W_prepare_34_23 w d c x2 x3 x4 ?_ 1000 S (0 : Int64) (0 : Int32) H
      · intro S18 y19 y20 H
        try dsimp only at H
        obtain ⟨g21, H⟩ := ck_e H
        refine J.run b_W_prepare_101_6 k_W_prepare_101_6 rfl (And.intro (okO_st (S := S18) rfl) (And.intro (okB_st (S := S18) (n := 40) rfl g21) (show J w (d + 6) m_W_prepare (n0, z0, none, mk c z.2) 113 [some (.ref 138), some (.ref 34), some (.int x2), some (.int x3), some (.int (x4 + (1 : Int32))), some (.long y19), none, none, none] [] (mk c (uJ S18 142 (x4).toNatClampNeg y19)) from ?_)))
        refine J.goto (tgt := 8) d_W_prepare_113 rfl ?_
        refine J.mask [true, true, true, true, true, false, false, false, false] ?_
        exact ih (uJ S18 142 (x4).toNatClampNeg y19) (x4 + (1 : Int32)) H
theorem c_W_prepare_34 (w : Wd) (d : Nat) (c : cx)   (S : hs) (x2 : Int32) (x3 : Int32)  {z : Int32 × hs} (H : f_W_prepare_34 S x2 x3 = some z) : Cl w (d + 6) m_W_prepare [.ref 138, .ref 34, .int x2, .int x3] (mk c S) (none) (mk c z.2) := by
  refine Cl.of (Nat.le_refl _) (Nat.le_refl _) (by decide +kernel) (Nat.le_of_ble_eq_true rfl) ?_
  unfold f_W_prepare_34 at H
  generalize hN (mk c S) = n0
  generalize hZ (mk c S) = z0
  show J w (d + 6) m_W_prepare (n0, z0, none, mk c z.2) 0 [some (.ref 138), some (.ref 34), some (.int x2), some (.int x3), none, none, none, none, none] [] (mk c S)
  refine J.run b_W_prepare_0_2 k_W_prepare_0_2 rfl (show J w (d + 6) m_W_prepare (n0, z0, none, mk c z.2) 2 [some (.ref 138), some (.ref 34), some (.int x2), some (.int x3), none, none, none, none, none] [.ref 34, .ref 138] (mk c S) from ?_)
  obtain ⟨r1, S2, h3, H⟩ := bd_e H
  refine J.callV (y := m_W_look) (av := [.ref 34]) (rest := []) (q := 138) l_W_82 d_W_prepare_2 (isC_st rfl rfl) (c_W_look_34 w (d + 1) c  S h3) rfl (Nat.le_of_ble_eq_true rfl) ⟨Nat.le_refl _, Nat.le_refl _⟩ (show J w (d + 6) m_W_prepare (n0, z0, none, mk c z.2) 5 [some (.ref 138), some (.ref 34), some (.int x2), some (.int x3), none, none, none, none, none] [] (mk c S2) from ?_)
  refine J.run b_W_prepare_5_2 k_W_prepare_5_2 rfl (show J w (d + 6) m_W_prepare (n0, z0, none, mk c z.2) 8 [some (.ref 138), some (.ref 34), some (.int x2), some (.int x3), some (.int (0 : Int32)), none, none, none, none] [] (mk c S2) from ?_)
  refine J.mask [true, true, true, true, true, false, false, false, false] ?_
  refine lo_W_prepare_34_8 w d c x2 x3  1000 S2 (0 : Int32) H
def b_X_isIn_0_7 : List Ins := [(.lload_n 0, 0, 0, 0), (.iload_n 2, 0, 0, 0), (.lushr, 0, 0, 0), (.lconst 1, 0, 0, 0), (.land, 0, 0, 0), (.lconst 0, 0, 0, 0), (.lcmp, 0, 0, 0)]
theorem k_X_isIn_0_7 : bok m_X_isIn 0 b_X_isIn_0_7 = true := by decide +kernel
def b_X_isIn_14_1 : List Ins := [(.iconst (0), 0, 0, 0)]
theorem k_X_isIn_14_1 : bok m_X_isIn 14 b_X_isIn_14_1 = true := by decide +kernel
def b_X_isIn_10_1 : List Ins := [(.iconst (1), 0, 0, 0)]
theorem k_X_isIn_10_1 : bok m_X_isIn 10 b_X_isIn_10_1 = true := by decide +kernel
theorem d_X_isIn_7 : decode m_X_isIn.2.1 7 = .ok (.ifCond .eq (7), 3) := by decide +kernel
theorem d_X_isIn_15 : decode m_X_isIn.2.1 15 = .ok (.ireturn, 1) := by decide +kernel
theorem d_X_isIn_11 : decode m_X_isIn.2.1 11 = .ok (.goto (4), 3) := by decide +kernel
def f_X_isIn  (S : hs) (x0 : Int64) (x2 : Int32) : Option (Int32 × hs) := (if (lg_cmp ((lushr x0 x2) &&& (1 : Int64)) (0 : Int64)) = 0 then some ((0 : Int32), S) else some ((1 : Int32), S))
theorem c_X_isIn (w : Wd) (d : Nat) (c : cx)   (S : hs) (x0 : Int64) (x2 : Int32)  {z : Int32 × hs} (H : f_X_isIn S x0 x2 = some z) : Cl w (d + 1) m_X_isIn [.long x0, .int x2] (mk c S) (some (.int z.1)) (mk c z.2) := by
  refine Cl.of (Nat.le_refl _) (Nat.le_refl _) (by decide +kernel) (Nat.le_of_ble_eq_true rfl) ?_
  unfold f_X_isIn at H
  generalize hN (mk c S) = n0
  generalize hZ (mk c S) = z0
  show J w (d + 1) m_X_isIn (n0, z0, some (.int z.1), mk c z.2) 0 [some (.long x0), none, some (.int x2)] [] (mk c S)
  refine J.run b_X_isIn_0_7 k_X_isIn_0_7 rfl (show J w (d + 1) m_X_isIn (n0, z0, some (.int z.1), mk c z.2) 7 [some (.long x0), none, some (.int x2)] [.int (lg_cmp ((lushr x0 x2) &&& (1 : Int64)) (0 : Int64))] (mk c S) from ?_)
  refine J.zeq (tgt := 14) d_X_isIn_7 rfl (fun q1 => ?_) (fun q1 => ?_)
  · have H := ite_t H q1
    refine J.run b_X_isIn_14_1 k_X_isIn_14_1 rfl (show J w (d + 1) m_X_isIn (n0, z0, some (.int z.1), mk c z.2) 15 [some (.long x0), none, some (.int x2)] [.int (0 : Int32)] (mk c S) from ?_)
    obtain rfl := some_e H
    exact J.nret d_X_isIn_15 rfl rfl rfl
  · have H := ite_f H q1
    refine J.run b_X_isIn_10_1 k_X_isIn_10_1 rfl (show J w (d + 1) m_X_isIn (n0, z0, some (.int z.1), mk c z.2) 11 [some (.long x0), none, some (.int x2)] [.int (1 : Int32)] (mk c S) from ?_)
    refine J.goto (tgt := 15) d_X_isIn_11 rfl ?_
    obtain rfl := some_e H
    exact J.nret d_X_isIn_15 rfl rfl rfl
def b_W_nearest_0_6 : List Ins := [(.iconst (-1), 0, 0, 0), (.istore_n 3, 0, 0, 0), (.ldc 93, 0, 1000000, 0), (.istore 4, 0, 0, 0), (.iconst (0), 0, 0, 0), (.istore 5, 0, 0, 0)]
theorem k_W_nearest_0_6 : bok m_W_nearest 0 b_W_nearest_0_6 = true := by decide +kernel
def b_W_nearest_9_3 : List Ins := [(.iload 5, 0, 0, 0), (.aload_n 0, 0, 0, 0), (.getfield 58, 4, 10, 0)]
theorem k_W_nearest_9_3 : bok m_W_nearest 9 b_W_nearest_9_3 = true := by decide +kernel
def b_W_nearest_57_1 : List Ins := [(.iload_n 3, 0, 0, 0)]
theorem k_W_nearest_57_1 : bok m_W_nearest 57 b_W_nearest_57_1 = true := by decide +kernel
def b_W_nearest_18_5 : List Ins := [(.aload_n 0, 0, 0, 0), (.getfield 28, 4, 5, 2), (.iload 5, 0, 0, 0), (.iaload, 0, 0, 0), (.iload 4, 0, 0, 0)]
theorem k_W_nearest_18_5 : bok m_W_nearest 18 b_W_nearest_18_5 = true := by decide +kernel
def b_W_nearest_51_1 : List Ins := [(.iinc 5 (1), 0, 0, 0)]
theorem k_W_nearest_51_1 : bok m_W_nearest 51 b_W_nearest_51_1 = true := by decide +kernel
def b_W_nearest_30_2 : List Ins := [(.lload_n 1, 0, 0, 0), (.iload 5, 0, 0, 0)]
theorem k_W_nearest_30_2 : bok m_W_nearest 30 b_W_nearest_30_2 = true := by decide +kernel
def b_W_nearest_39_8 : List Ins := [(.aload_n 0, 0, 0, 0), (.getfield 28, 4, 5, 2), (.iload 5, 0, 0, 0), (.iaload, 0, 0, 0), (.istore 4, 0, 0, 0), (.iload 5, 0, 0, 0), (.istore_n 3, 0, 0, 0), (.iinc 5 (1), 0, 0, 0)]
theorem k_W_nearest_39_8 : bok m_W_nearest 39 b_W_nearest_39_8 = true := by decide +kernel
theorem d_W_nearest_15 : decode m_W_nearest.2.1 15 = .ok (.if_icmp .ge (42), 3) := by decide +kernel
theorem d_W_nearest_58 : decode m_W_nearest.2.1 58 = .ok (.ireturn, 1) := by decide +kernel
theorem d_W_nearest_27 : decode m_W_nearest.2.1 27 = .ok (.if_icmp .ge (24), 3) := by decide +kernel
theorem d_W_nearest_54 : decode m_W_nearest.2.1 54 = .ok (.goto (-45), 3) := by decide +kernel
theorem d_W_nearest_33 : decode m_W_nearest.2.1 33 = .ok (.invokestatic 98, 3) := by decide +kernel
theorem d_W_nearest_36 : decode m_W_nearest.2.1 36 = .ok (.ifCond .eq (15), 3) := by decide +kernel
def lp_W_nearest_9 (x1 : Int64)   : Nat → hs → Int32 → Int32 → Int32 → Option (Int32 × hs)
  | 0, _, _, _, _ => none
  | n + 1, S, x3, x4, x5 => (if (gI S 138 10) ≤ x5 then some (x3, S) else ck (inb x5 40) ((if x4 ≤ (gI S 144 (x5).toNatClampNeg) then lp_W_nearest_9 x1 n S x3 x4 (x5 + (1 : Int32)) else bd (f_X_isIn  S x1 x5) fun r4 S5 => (if r4 = 0 then lp_W_nearest_9 x1 n S5 x3 x4 (x5 + (1 : Int32)) else lp_W_nearest_9 x1 n S5 x5 (gI S5 144 (x5).toNatClampNeg) (x5 + (1 : Int32))))))
def f_W_nearest  (S : hs) (x1 : Int64) : Option (Int32 × hs) := lp_W_nearest_9 x1 1000 S (-1 : Int32) (1000000 : Int32) (0 : Int32)
theorem lo_W_nearest_9 (w : Wd) (d : Nat) (c : cx) {n0 z0 : Nat} {z : Int32 × hs}   (x1 : Int64)    :
    ∀ (n : Nat) (S : hs) (x3 : Int32) (x4 : Int32) (x5 : Int32), lp_W_nearest_9 x1 n S x3 x4 x5 = some z → J w (d + 2) m_W_nearest (n0, z0, some (.int z.1), mk c z.2) 9 [some (.ref 138), some (.long x1), none, some (.int x3), some (.int x4), some (.int x5)] [] (mk c S) := by
  intro n
  induction n with
  | zero => intro S x3 x4 x5 H; cases H
  | succ n ih =>
    intro S x3 x4 x5 H
    rw [lp_W_nearest_9] at H
    refine J.run b_W_nearest_9_3 k_W_nearest_9_3 rfl (And.intro (okO_st (S := S) rfl) (show J w (d + 2) m_W_nearest (n0, z0, some (.int z.1), mk c z.2) 15 [some (.ref 138), some (.long x1), none, some (.int x3), some (.int x4), some (.int x5)] [.int (gI S 138 10), .int x5] (mk c S) from ?_))
    refine J.cge (tgt := 57) d_W_nearest_15 rfl (fun q1 => ?_) (fun q1 => ?_)
    · have H := ite_t H q1
      refine J.run b_W_nearest_57_1 k_W_nearest_57_1 rfl (show J w (d + 2) m_W_nearest (n0, z0, some (.int z.1), mk c z.2) 58 [some (.ref 138), some (.long x1), none, some (.int x3), some (.int x4), some (.int x5)] [.int x3] (mk c S) from ?_)
      obtain rfl := some_e H
      exact J.iret d_W_nearest_58 rfl rfl
    · have H := ite_f H q1
      obtain ⟨g2, H⟩ := ck_e H
      refine J.run b_W_nearest_18_5 k_W_nearest_18_5 rfl (And.intro (okO_st (S := S) rfl) (And.intro (okA_st (S := S) (n := 40) rfl g2) (show J w (d + 2) m_W_nearest (n0, z0, some (.int z.1), mk c z.2) 27 [some (.ref 138), some (.long x1), none, some (.int x3), some (.int x4), some (.int x5)] [.int x4, .int (gI S 144 (x5).toNatClampNeg)] (mk c S) from ?_)))
      refine J.cge (tgt := 51) d_W_nearest_27 rfl (fun q3 => ?_) (fun q3 => ?_)
      · have H := ite_t H q3
        refine J.run b_W_nearest_51_1 k_W_nearest_51_1 rfl (show J w (d + 2) m_W_nearest (n0, z0, some (.int z.1), mk c z.2) 54 [some (.ref 138), some (.long x1), none, some (.int x3), some (.int x4), some (.int (x5 + (1 : Int32)))] [] (mk c S) from ?_)
        refine J.goto (tgt := 9) d_W_nearest_54 rfl ?_
        refine J.mask [true, true, false, true, true, true] ?_
        exact ih S x3 x4 (x5 + (1 : Int32)) H
      · have H := ite_f H q3
        refine J.run b_W_nearest_30_2 k_W_nearest_30_2 rfl (show J w (d + 2) m_W_nearest (n0, z0, some (.int z.1), mk c z.2) 33 [some (.ref 138), some (.long x1), none, some (.int x3), some (.int x4), some (.int x5)] [.int x5, .long x1] (mk c S) from ?_)
        obtain ⟨r4, S5, h6, H⟩ := bd_e H
        refine J.callSn (y := m_X_isIn) (av := [.long x1, .int x5]) (rest := []) l_W_98 d_W_nearest_33 (c_X_isIn w (d + 0) c  S x1 x5 h6) rfl (Nat.le_of_ble_eq_true rfl) ⟨Nat.le_refl _, Nat.le_refl _⟩ (show J w (d + 2) m_W_nearest (n0, z0, some (.int z.1), mk c z.2) 36 [some (.ref 138), some (.long x1), none, some (.int x3), some (.int x4), some (.int x5)] [.int r4] (mk c S5) from ?_)
        refine J.zeq (tgt := 51) d_W_nearest_36 rfl (fun q7 => ?_) (fun q7 => ?_)
        · have H := ite_t H q7
          refine J.run b_W_nearest_51_1 k_W_nearest_51_1 rfl (show J w (d + 2) m_W_nearest (n0, z0, some (.int z.1), mk c z.2) 54 [some (.ref 138), some (.long x1), none, some (.int x3), some (.int x4), some (.int (x5 + (1 : Int32)))] [] (mk c S5) from ?_)
          refine J.goto (tgt := 9) d_W_nearest_54 rfl ?_
          refine J.mask [true, true, false, true, true, true] ?_
          exact ih S5 x3 x4 (x5 + (1 : Int32)) H
        · have H := ite_f H q7
          refine J.run b_W_nearest_39_8 k_W_nearest_39_8 rfl (And.intro (okO_st (S := S5) rfl) (And.intro (okA_st (S := S5) (n := 40) rfl g2) (show J w (d + 2) m_W_nearest (n0, z0, some (.int z.1), mk c z.2) 54 [some (.ref 138), some (.long x1), none, some (.int x5), some (.int (gI S5 144 (x5).toNatClampNeg)), some (.int (x5 + (1 : Int32)))] [] (mk c S5) from ?_)))
          refine J.goto (tgt := 9) d_W_nearest_54 rfl ?_
          refine J.mask [true, true, false, true, true, true] ?_
          exact ih S5 x5 (gI S5 144 (x5).toNatClampNeg) (x5 + (1 : Int32)) H
theorem c_W_nearest (w : Wd) (d : Nat) (c : cx)   (S : hs) (x1 : Int64)  {z : Int32 × hs} (H : f_W_nearest S x1 = some z) : Cl w (d + 2) m_W_nearest [.ref 138, .long x1] (mk c S) (some (.int z.1)) (mk c z.2) := by
  refine Cl.of (Nat.le_refl _) (Nat.le_refl _) (by decide +kernel) (Nat.le_of_ble_eq_true rfl) ?_
  unfold f_W_nearest at H
  generalize hN (mk c S) = n0
  generalize hZ (mk c S) = z0
  show J w (d + 2) m_W_nearest (n0, z0, some (.int z.1), mk c z.2) 0 [some (.ref 138), some (.long x1), none, none, none, none] [] (mk c S)
  refine J.run b_W_nearest_0_6 k_W_nearest_0_6 rfl (show J w (d + 2) m_W_nearest (n0, z0, some (.int z.1), mk c z.2) 9 [some (.ref 138), some (.long x1), none, some (.int (-1 : Int32)), some (.int (1000000 : Int32)), some (.int (0 : Int32))] [] (mk c S) from ?_)
  refine J.mask [true, true, false, true, true, true] ?_
  refine lo_W_nearest_9 w d c x1  1000 S (-1 : Int32) (1000000 : Int32) (0 : Int32) H
def b_W_measure_0_2 : List Ins := [(.iconst (0), 0, 0, 0), (.istore_n 3, 0, 0, 0)]
theorem k_W_measure_0_2 : bok m_W_measure 0 b_W_measure_0_2 = true := by decide +kernel
def b_W_measure_2_3 : List Ins := [(.iload_n 3, 0, 0, 0), (.aload_n 0, 0, 0, 0), (.getfield 58, 4, 10, 0)]
theorem k_W_measure_2_3 : bok m_W_measure 2 b_W_measure_2_3 = true := by decide +kernel
def b_W_measure_10_5 : List Ins := [(.aload_n 0, 0, 0, 0), (.getfield 28, 4, 5, 2), (.iload_n 3, 0, 0, 0), (.lload_n 1, 0, 0, 0), (.iload_n 3, 0, 0, 0)]
theorem k_W_measure_10_5 : bok m_W_measure 10 b_W_measure_10_5 = true := by decide +kernel
def b_W_measure_27_3 : List Ins := [(.ldc 93, 0, 1000000, 0), (.iastore, 0, 0, 0), (.iinc 3 (1), 0, 0, 0)]
theorem k_W_measure_27_3 : bok m_W_measure 27 b_W_measure_27_3 = true := by decide +kernel
def b_W_measure_23_1 : List Ins := [(.iconst (0), 0, 0, 0)]
theorem k_W_measure_23_1 : bok m_W_measure 23 b_W_measure_23_1 = true := by decide +kernel
def b_W_measure_29_2 : List Ins := [(.iastore, 0, 0, 0), (.iinc 3 (1), 0, 0, 0)]
theorem k_W_measure_29_2 : bok m_W_measure 29 b_W_measure_29_2 = true := by decide +kernel
def b_W_measure_36_5 : List Ins := [(.aload_n 0, 0, 0, 0), (.getfield 39, 4, 8, 1), (.lstore_n 3, 0, 0, 0), (.iconst (0), 0, 0, 0), (.istore 5, 0, 0, 0)]
theorem k_W_measure_36_5 : bok m_W_measure 36 b_W_measure_36_5 = true := by decide +kernel
def b_W_measure_44_3 : List Ins := [(.iload 5, 0, 0, 0), (.aload_n 0, 0, 0, 0), (.getfield 58, 4, 10, 0)]
theorem k_W_measure_44_3 : bok m_W_measure 44 b_W_measure_44_3 = true := by decide +kernel
def b_W_measure_53_2 : List Ins := [(.aload_n 0, 0, 0, 0), (.lload_n 3, 0, 0, 0)]
theorem k_W_measure_53_2 : bok m_W_measure 53 b_W_measure_53_2 = true := by decide +kernel
def b_W_measure_58_2 : List Ins := [(.istore 6, 0, 0, 0), (.iload 6, 0, 0, 0)]
theorem k_W_measure_58_2 : bok m_W_measure 58 b_W_measure_58_2 = true := by decide +kernel
def b_W_measure_66_20 : List Ins := [(.lload_n 3, 0, 0, 0), (.lconst 1, 0, 0, 0), (.iload 6, 0, 0, 0), (.lshl, 0, 0, 0), (.ldc2_w 106, 1, 1, 0), (.lxor, 0, 0, 0), (.land, 0, 0, 0), (.lstore_n 3, 0, 0, 0), (.aload_n 0, 0, 0, 0), (.getfield 28, 4, 5, 2), (.iload 6, 0, 0, 0), (.iaload, 0, 0, 0), (.aload_n 0, 0, 0, 0), (.getfield 18, 4, 2, 2), (.iload 6, 0, 0, 0), (.iaload, 0, 0, 0), (.iadd, 0, 0, 0), (.istore 7, 0, 0, 0), (.iconst (0), 0, 0, 0), (.istore 8, 0, 0, 0)]
theorem k_W_measure_66_20 : bok m_W_measure 66 b_W_measure_66_20 = true := by decide +kernel
def b_W_measure_97_3 : List Ins := [(.iload 8, 0, 0, 0), (.aload_n 0, 0, 0, 0), (.getfield 58, 4, 10, 0)]
theorem k_W_measure_97_3 : bok m_W_measure 97 b_W_measure_97_3 = true := by decide +kernel
def b_W_measure_106_5 : List Ins := [(.iload 7, 0, 0, 0), (.aload_n 0, 0, 0, 0), (.getfield 28, 4, 5, 2), (.iload 8, 0, 0, 0), (.iaload, 0, 0, 0)]
theorem k_W_measure_106_5 : bok m_W_measure 106 b_W_measure_106_5 = true := by decide +kernel
def b_W_measure_151_1 : List Ins := [(.iinc 8 (1), 0, 0, 0)]
theorem k_W_measure_151_1 : bok m_W_measure 151 b_W_measure_151_1 = true := by decide +kernel
def b_W_measure_118_2 : List Ins := [(.lload_n 3, 0, 0, 0), (.iload 8, 0, 0, 0)]
theorem k_W_measure_118_2 : bok m_W_measure 118 b_W_measure_118_2 = true := by decide +kernel
def b_W_measure_127_5 : List Ins := [(.aload_n 0, 0, 0, 0), (.getfield 21, 4, 3, 2), (.iload 8, 0, 0, 0), (.laload, 0, 0, 0), (.iload 6, 0, 0, 0)]
theorem k_W_measure_127_5 : bok m_W_measure 127 b_W_measure_127_5 = true := by decide +kernel
def b_W_measure_142_6 : List Ins := [(.aload_n 0, 0, 0, 0), (.getfield 28, 4, 5, 2), (.iload 8, 0, 0, 0), (.iload 7, 0, 0, 0), (.iastore, 0, 0, 0), (.iinc 8 (1), 0, 0, 0)]
theorem k_W_measure_142_6 : bok m_W_measure 142 b_W_measure_142_6 = true := by decide +kernel
def b_W_measure_157_1 : List Ins := [(.iinc 5 (1), 0, 0, 0)]
theorem k_W_measure_157_1 : bok m_W_measure 157 b_W_measure_157_1 = true := by decide +kernel
theorem d_W_measure_7 : decode m_W_measure.2.1 7 = .ok (.if_icmp .ge (29), 3) := by decide +kernel
theorem d_W_measure_17 : decode m_W_measure.2.1 17 = .ok (.invokestatic 98, 3) := by decide +kernel
theorem d_W_measure_20 : decode m_W_measure.2.1 20 = .ok (.ifCond .eq (7), 3) := by decide +kernel
theorem d_W_measure_33 : decode m_W_measure.2.1 33 = .ok (.goto (-31), 3) := by decide +kernel
theorem d_W_measure_24 : decode m_W_measure.2.1 24 = .ok (.goto (5), 3) := by decide +kernel
theorem d_W_measure_50 : decode m_W_measure.2.1 50 = .ok (.if_icmp .ge (113), 3) := by decide +kernel
theorem d_W_measure_163 : decode m_W_measure.2.1 163 = .ok (.return_, 1) := by decide +kernel
theorem d_W_measure_55 : decode m_W_measure.2.1 55 = .ok (.invokevirtual 102, 3) := by decide +kernel
theorem d_W_measure_62 : decode m_W_measure.2.1 62 = .ok (.ifCond .ge (4), 3) := by decide +kernel
theorem d_W_measure_103 : decode m_W_measure.2.1 103 = .ok (.if_icmp .ge (54), 3) := by decide +kernel
theorem d_W_measure_115 : decode m_W_measure.2.1 115 = .ok (.if_icmp .ge (36), 3) := by decide +kernel
theorem d_W_measure_154 : decode m_W_measure.2.1 154 = .ok (.goto (-57), 3) := by decide +kernel
theorem d_W_measure_121 : decode m_W_measure.2.1 121 = .ok (.invokestatic 98, 3) := by decide +kernel
theorem d_W_measure_124 : decode m_W_measure.2.1 124 = .ok (.ifCond .eq (27), 3) := by decide +kernel
theorem d_W_measure_136 : decode m_W_measure.2.1 136 = .ok (.invokestatic 98, 3) := by decide +kernel
theorem d_W_measure_139 : decode m_W_measure.2.1 139 = .ok (.ifCond .eq (12), 3) := by decide +kernel
theorem d_W_measure_160 : decode m_W_measure.2.1 160 = .ok (.goto (-116), 3) := by decide +kernel
theorem d_W_measure_65 : decode m_W_measure.2.1 65 = .ok (.return_, 1) := by decide +kernel
def lp_W_measure_2 (x1 : Int64)  (K0 : hs → Int32 → Option (Int32 × hs)) : Nat → hs → Int32 → Option (Int32 × hs)
  | 0, _, _ => none
  | n + 1, S, x3 => (if (gI S 138 10) ≤ x3 then K0 S x3 else bd (f_X_isIn  S x1 x3) fun r2 S3 => (if r2 = 0 then ck (inb x3 40) (lp_W_measure_2 x1 K0 n (uI S3 144 (x3).toNatClampNeg (1000000 : Int32)) (x3 + (1 : Int32))) else ck (inb x3 40) (lp_W_measure_2 x1 K0 n (uI S3 144 (x3).toNatClampNeg (0 : Int32)) (x3 + (1 : Int32)))))
def lp_W_measure_97 (x3 : Int64) (x5 : Int32) (x6 : Int32) (x7 : Int32)  (K0 : hs → Int32 → Option (Int32 × hs)) : Nat → hs → Int32 → Option (Int32 × hs)
  | 0, _, _ => none
  | n + 1, S, x8 => (if (gI S 138 10) ≤ x8 then K0 S x8 else ck (inb x8 40) ((if (gI S 144 (x8).toNatClampNeg) ≤ x7 then lp_W_measure_97 x3 x5 x6 x7 K0 n S (x8 + (1 : Int32)) else bd (f_X_isIn  S x3 x8) fun r19 S20 => (if r19 = 0 then lp_W_measure_97 x3 x5 x6 x7 K0 n S20 (x8 + (1 : Int32)) else bd (f_X_isIn  S20 (gJ S20 142 (x8).toNatClampNeg) x6) fun r23 S24 => (if r23 = 0 then lp_W_measure_97 x3 x5 x6 x7 K0 n S24 (x8 + (1 : Int32)) else lp_W_measure_97 x3 x5 x6 x7 K0 n (uI S24 144 (x8).toNatClampNeg x7) (x8 + (1 : Int32)))))))
def lp_W_measure_44    : Nat → hs → Int64 → Int32 → Option (Int32 × hs)
  | 0, _, _, _ => none
  | n + 1, S, x3, x5 => (if (gI S 138 10) ≤ x5 then some ((0 : Int32), S) else bd (f_W_nearest  S x3) fun r11 S12 => (if 0 ≤ r11 then ck (inb r11 40) (lp_W_measure_97 (x3 &&& (((1 : Int64) <<< (r11.toInt64 &&& 63)) ^^^ (-1 : Int64))) x5 r11 ((gI S12 144 (r11).toNatClampNeg) + (gI S12 141 (r11).toNatClampNeg)) (fun (S27 : hs) (y28 : Int32) => lp_W_measure_44  n S27 (x3 &&& (((1 : Int64) <<< (r11.toInt64 &&& 63)) ^^^ (-1 : Int64))) (x5 + (1 : Int32))) 1000 S12 (0 : Int32)) else some ((0 : Int32), S12)))
def f_W_measure  (S : hs) (x1 : Int64) : Option (Int32 × hs) := lp_W_measure_2 x1 (fun (S8 : hs) (y9 : Int32) => lp_W_measure_44  1000 S8 (gJ S8 138 8) (0 : Int32)) 1000 S (0 : Int32)
theorem lo_W_measure_2 (w : Wd) (d : Nat) (c : cx) {n0 z0 : Nat} {z : Int32 × hs}  {K0 : hs → Int32 → Option (Int32 × hs)} (x1 : Int64)   (hK0 : ∀ (S : hs) (x3 : Int32), K0 S x3 = some z → J w (d + 3) m_W_measure (n0, z0, none, mk c z.2) 36 [some (.ref 138), none, none, none, none, none, none, none, none] [] (mk c S)) :
    ∀ (n : Nat) (S : hs) (x3 : Int32), lp_W_measure_2 x1 K0 n S x3 = some z → J w (d + 3) m_W_measure (n0, z0, none, mk c z.2) 2 [some (.ref 138), some (.long x1), none, some (.int x3), none, none, none, none, none] [] (mk c S) := by
  intro n
  induction n with
  | zero => intro S x3 H; cases H
  | succ n ih =>
    intro S x3 H
    rw [lp_W_measure_2] at H
    refine J.run b_W_measure_2_3 k_W_measure_2_3 rfl (And.intro (okO_st (S := S) rfl) (show J w (d + 3) m_W_measure (n0, z0, none, mk c z.2) 7 [some (.ref 138), some (.long x1), none, some (.int x3), none, none, none, none, none] [.int (gI S 138 10), .int x3] (mk c S) from ?_))
    refine J.cge (tgt := 36) d_W_measure_7 rfl (fun q1 => ?_) (fun q1 => ?_)
    · have H := ite_t H q1
      refine J.mask [true, false, false, false, false, false, false, false, false] ?_
      exact hK0 S x3 H
    · have H := ite_f H q1
      refine J.run b_W_measure_10_5 k_W_measure_10_5 rfl (And.intro (okO_st (S := S) rfl) (show J w (d + 3) m_W_measure (n0, z0, none, mk c z.2) 17 [some (.ref 138), some (.long x1), none, some (.int x3), none, none, none, none, none] [.int x3, .long x1, .int x3, .ref 144] (mk c S) from ?_))
      obtain ⟨r2, S3, h4, H⟩ := bd_e H
      refine J.callSn (y := m_X_isIn) (av := [.long x1, .int x3]) (rest := [.int x3, .ref 144]) l_W_98 d_W_measure_17 (c_X_isIn w (d + 1) c  S x1 x3 h4) rfl (Nat.le_of_ble_eq_true rfl) ⟨Nat.le_refl _, Nat.le_refl _⟩ (show J w (d + 3) m_W_measure (n0, z0, none, mk c z.2) 20 [some (.ref 138), some (.long x1), none, some (.int x3), none, none, none, none, none] [.int r2, .int x3, .ref 144] (mk c S3) from ?_)
      refine J.zeq (tgt := 27) d_W_measure_20 rfl (fun q5 => ?_) (fun q5 => ?_)
      · have H := ite_t H q5
        obtain ⟨g6, H⟩ := ck_e H
        refine J.run b_W_measure_27_3 k_W_measure_27_3 rfl (And.intro (okB_st (S := S3) (n := 40) rfl g6) (show J w (d + 3) m_W_measure (n0, z0, none, mk c z.2) 33 [some (.ref 138), some (.long x1), none, some (.int (x3 + (1 : Int32))), none, none, none, none, none] [] (mk c (uI S3 144 (x3).toNatClampNeg (1000000 : Int32))) from ?_))
        refine J.goto (tgt := 2) d_W_measure_33 rfl ?_
        refine J.mask [true, true, false, true, false, false, false, false, false] ?_
        exact ih (uI S3 144 (x3).toNatClampNeg (1000000 : Int32)) (x3 + (1 : Int32)) H
      · have H := ite_f H q5
        refine J.run b_W_measure_23_1 k_W_measure_23_1 rfl (show J w (d + 3) m_W_measure (n0, z0, none, mk c z.2) 24 [some (.ref 138), some (.long x1), none, some (.int x3), none, none, none, none, none] [.int (0 : Int32), .int x3, .ref 144] (mk c S3) from ?_)
        refine J.goto (tgt := 29) d_W_measure_24 rfl ?_
        obtain ⟨g7, H⟩ := ck_e H
        refine J.run b_W_measure_29_2 k_W_measure_29_2 rfl (And.intro (okB_st (S := S3) (n := 40) rfl g7) (show J w (d + 3) m_W_measure (n0, z0, none, mk c z.2) 33 [some (.ref 138), some (.long x1), none, some (.int (x3 + (1 : Int32))), none, none, none, none, none] [] (mk c (uI S3 144 (x3).toNatClampNeg (0 : Int32))) from ?_))
        refine J.goto (tgt := 2) d_W_measure_33 rfl ?_
        refine J.mask [true, true, false, true, false, false, false, false, false] ?_
        exact ih (uI S3 144 (x3).toNatClampNeg (0 : Int32)) (x3 + (1 : Int32)) H
theorem lo_W_measure_97 (w : Wd) (d : Nat) (c : cx) {n0 z0 : Nat} {z : Int32 × hs}  {K0 : hs → Int32 → Option (Int32 × hs)} (x3 : Int64) (x5 : Int32) (x6 : Int32) (x7 : Int32)   (hK0 : ∀ (S : hs) (x8 : Int32), K0 S x8 = some z → J w (d + 3) m_W_measure (n0, z0, none, mk c z.2) 157 [some (.ref 138), none, none, some (.long x3), none, some (.int x5), none, none, none] [] (mk c S)) :
    ∀ (n : Nat) (S : hs) (x8 : Int32), lp_W_measure_97 x3 x5 x6 x7 K0 n S x8 = some z → J w (d + 3) m_W_measure (n0, z0, none, mk c z.2) 97 [some (.ref 138), none, none, some (.long x3), none, some (.int x5), some (.int x6), some (.int x7), some (.int x8)] [] (mk c S) := by
  intro n
  induction n with
  | zero => intro S x8 H; cases H
  | succ n ih =>
    intro S x8 H
    rw [lp_W_measure_97] at H
    refine J.run b_W_measure_97_3 k_W_measure_97_3 rfl (And.intro (okO_st (S := S) rfl) (show J w (d + 3) m_W_measure (n0, z0, none, mk c z.2) 103 [some (.ref 138), none, none, some (.long x3), none, some (.int x5), some (.int x6), some (.int x7), some (.int x8)] [.int (gI S 138 10), .int x8] (mk c S) from ?_))
    refine J.cge (tgt := 157) d_W_measure_103 rfl (fun q16 => ?_) (fun q16 => ?_)
    · have H := ite_t H q16
      refine J.mask [true, false, false, true, false, true, false, false, false] ?_
      exact hK0 S x8 H
    · have H := ite_f H q16
      obtain ⟨g17, H⟩ := ck_e H
      refine J.run b_W_measure_106_5 k_W_measure_106_5 rfl (And.intro (okO_st (S := S) rfl) (And.intro (okA_st (S := S) (n := 40) rfl g17) (show J w (d + 3) m_W_measure (n0, z0, none, mk c z.2) 115 [some (.ref 138), none, none, some (.long x3), none, some (.int x5), some (.int x6), some (.int x7), some (.int x8)] [.int (gI S 144 (x8).toNatClampNeg), .int x7] (mk c S) from ?_)))
      refine J.cge (tgt := 151) d_W_measure_115 rfl (fun q18 => ?_) (fun q18 => ?_)
      · have H := ite_t H q18
        refine J.run b_W_measure_151_1 k_W_measure_151_1 rfl (show J w (d + 3) m_W_measure (n0, z0, none, mk c z.2) 154 [some (.ref 138), none, none, some (.long x3), none, some (.int x5), some (.int x6), some (.int x7), some (.int (x8 + (1 : Int32)))] [] (mk c S) from ?_)
        refine J.goto (tgt := 97) d_W_measure_154 rfl ?_
        refine J.mask [true, false, false, true, false, true, true, true, true] ?_
        exact ih S (x8 + (1 : Int32)) H
      · have H := ite_f H q18
        refine J.run b_W_measure_118_2 k_W_measure_118_2 rfl (show J w (d + 3) m_W_measure (n0, z0, none, mk c z.2) 121 [some (.ref 138), none, none, some (.long x3), none, some (.int x5), some (.int x6), some (.int x7), some (.int x8)] [.int x8, .long x3] (mk c S) from ?_)
        obtain ⟨r19, S20, h21, H⟩ := bd_e H
        refine J.callSn (y := m_X_isIn) (av := [.long x3, .int x8]) (rest := []) l_W_98 d_W_measure_121 (c_X_isIn w (d + 1) c  S x3 x8 h21) rfl (Nat.le_of_ble_eq_true rfl) ⟨Nat.le_refl _, Nat.le_refl _⟩ (show J w (d + 3) m_W_measure (n0, z0, none, mk c z.2) 124 [some (.ref 138), none, none, some (.long x3), none, some (.int x5), some (.int x6), some (.int x7), some (.int x8)] [.int r19] (mk c S20) from ?_)
        refine J.zeq (tgt := 151) d_W_measure_124 rfl (fun q22 => ?_) (fun q22 => ?_)
        · have H := ite_t H q22
          refine J.run b_W_measure_151_1 k_W_measure_151_1 rfl (show J w (d + 3) m_W_measure (n0, z0, none, mk c z.2) 154 [some (.ref 138), none, none, some (.long x3), none, some (.int x5), some (.int x6), some (.int x7), some (.int (x8 + (1 : Int32)))] [] (mk c S20) from ?_)
          refine J.goto (tgt := 97) d_W_measure_154 rfl ?_
          refine J.mask [true, false, false, true, false, true, true, true, true] ?_
          exact ih S20 (x8 + (1 : Int32)) H
        · have H := ite_f H q22
          refine J.run b_W_measure_127_5 k_W_measure_127_5 rfl (And.intro (okO_st (S := S20) rfl) (And.intro (okA_st (S := S20) (n := 40) rfl g17) (show J w (d + 3) m_W_measure (n0, z0, none, mk c z.2) 136 [some (.ref 138), none, none, some (.long x3), none, some (.int x5), some (.int x6), some (.int x7), some (.int x8)] [.int x6, .long (gJ S20 142 (x8).toNatClampNeg)] (mk c S20) from ?_)))
          obtain ⟨r23, S24, h25, H⟩ := bd_e H
          refine J.callSn (y := m_X_isIn) (av := [.long (gJ S20 142 (x8).toNatClampNeg), .int x6]) (rest := []) l_W_98 d_W_measure_136 (c_X_isIn w (d + 1) c  S20 (gJ S20 142 (x8).toNatClampNeg) x6 h25) rfl (Nat.le_of_ble_eq_true rfl) ⟨Nat.le_refl _, Nat.le_refl _⟩ (show J w (d + 3) m_W_measure (n0, z0, none, mk c z.2) 139 [some (.ref 138), none, none, some (.long x3), none, some (.int x5), some (.int x6), some (.int x7), some (.int x8)] [.int r23] (mk c S24) from ?_)
          refine J.zeq (tgt := 151) d_W_measure_139 rfl (fun q26 => ?_) (fun q26 => ?_)
          · have H := ite_t H q26
            refine J.run b_W_measure_151_1 k_W_measure_151_1 rfl (show J w (d + 3) m_W_measure (n0, z0, none, mk c z.2) 154 [some (.ref 138), none, none, some (.long x3), none, some (.int x5), some (.int x6), some (.int x7), some (.int (x8 + (1 : Int32)))] [] (mk c S24) from ?_)
            refine J.goto (tgt := 97) d_W_measure_154 rfl ?_
            refine J.mask [true, false, false, true, false, true, true, true, true] ?_
            exact ih S24 (x8 + (1 : Int32)) H
          · have H := ite_f H q26
            refine J.run b_W_measure_142_6 k_W_measure_142_6 rfl (And.intro (okO_st (S := S24) rfl) (And.intro (okB_st (S := S24) (n := 40) rfl g17) (show J w (d + 3) m_W_measure (n0, z0, none, mk c z.2) 154 [some (.ref 138), none, none, some (.long x3), none, some (.int x5), some (.int x6), some (.int x7), some (.int (x8 + (1 : Int32)))] [] (mk c (uI S24 144 (x8).toNatClampNeg x7)) from ?_)))
            refine J.goto (tgt := 97) d_W_measure_154 rfl ?_
            refine J.mask [true, false, false, true, false, true, true, true, true] ?_
            exact ih (uI S24 144 (x8).toNatClampNeg x7) (x8 + (1 : Int32)) H
theorem lo_W_measure_44 (w : Wd) (d : Nat) (c : cx) {n0 z0 : Nat} {z : Int32 × hs}       :
    ∀ (n : Nat) (S : hs) (x3 : Int64) (x5 : Int32), lp_W_measure_44  n S x3 x5 = some z → J w (d + 3) m_W_measure (n0, z0, none, mk c z.2) 44 [some (.ref 138), none, none, some (.long x3), none, some (.int x5), none, none, none] [] (mk c S) := by
  intro n
  induction n with
  | zero => intro S x3 x5 H; cases H
  | succ n ih =>
    intro S x3 x5 H
    rw [lp_W_measure_44] at H
    refine J.run b_W_measure_44_3 k_W_measure_44_3 rfl (And.intro (okO_st (S := S) rfl) (show J w (d + 3) m_W_measure (n0, z0, none, mk c z.2) 50 [some (.ref 138), none, none, some (.long x3), none, some (.int x5), none, none, none] [.int (gI S 138 10), .int x5] (mk c S) from ?_))
    refine J.cge (tgt := 163) d_W_measure_50 rfl (fun q10 => ?_) (fun q10 => ?_)
    · have H := ite_t H q10
      obtain rfl := some_e H
      exact J.vret d_W_measure_163 rfl rfl
    · have H := ite_f H q10
      refine J.run b_W_measure_53_2 k_W_measure_53_2 rfl (show J w (d + 3) m_W_measure (n0, z0, none, mk c z.2) 55 [some (.ref 138), none, none, some (.long x3), none, some (.int x5), none, none, none] [.long x3, .ref 138] (mk c S) from ?_)
      obtain ⟨r11, S12, h13, H⟩ := bd_e H
      refine J.callV (y := m_W_nearest) (av := [.long x3]) (rest := []) (q := 138) l_W_102 d_W_measure_55 (isC_st rfl rfl) (c_W_nearest w (d + 0) c  S x3 h13) rfl (Nat.le_of_ble_eq_true rfl) ⟨Nat.le_refl _, Nat.le_refl _⟩ (show J w (d + 3) m_W_measure (n0, z0, none, mk c z.2) 58 [some (.ref 138), none, none, some (.long x3), none, some (.int x5), none, none, none] [.int r11] (mk c S12) from ?_)
      refine J.run b_W_measure_58_2 k_W_measure_58_2 rfl (show J w (d + 3) m_W_measure (n0, z0, none, mk c z.2) 62 [some (.ref 138), none, none, some (.long x3), none, some (.int x5), some (.int r11), none, none] [.int r11] (mk c S12) from ?_)
      refine J.zge (tgt := 66) d_W_measure_62 rfl (fun q14 => ?_) (fun q14 => ?_)
      · have H := ite_t H q14
        obtain ⟨g15, H⟩ := ck_e H
        refine J.run b_W_measure_66_20 k_W_measure_66_20 rfl (And.intro (okO_st (S := S12) rfl) (And.intro (okA_st (S := S12) (n := 40) rfl g15) (And.intro (okO_st (S := S12) rfl) (And.intro (okA_st (S := S12) (n := 40) rfl g15) (show J w (d + 3) m_W_measure (n0, z0, none, mk c z.2) 97 [some (.ref 138), none, none, some (.long (x3 &&& (((1 : Int64) <<< (r11.toInt64 &&& 63)) ^^^ (-1 : Int64)))), none, some (.int x5), some (.int r11), some (.int ((gI S12 144 (r11).toNatClampNeg) + (gI S12 141 (r11).toNatClampNeg))), some (.int (0 : Int32))] [] (mk c S12) from ?_)))))
        refine J.mask [true, false, false, true, false, true, true, true, true] ?_
        refine lo_W_measure_97 w d c (x3 &&& (((1 : Int64) <<< (r11.toInt64 &&& 63)) ^^^ (-1 : Int64))) x5 r11 ((gI S12 144 (r11).toNatClampNeg) + (gI S12 141 (r11).toNatClampNeg)) ?_ 1000 S12 (0 : Int32) H
        · intro S27 y28 H
          try dsimp only at H
          refine J.run b_W_measure_157_1 k_W_measure_157_1 rfl (show J w (d + 3) m_W_measure (n0, z0, none, mk c z.2) 160 [some (.ref 138), none, none, some (.long (x3 &&& (((1 : Int64) <<< (r11.toInt64 &&& 63)) ^^^ (-1 : Int64)))), none, some (.int (x5 + (1 : Int32))), none, none, none] [] (mk c S27) from ?_)
          refine J.goto (tgt := 44) d_W_measure_160 rfl ?_
          refine J.mask [true, false, false, true, false, true, false, false, false] ?_
          exact ih S27 (x3 &&& (((1 : Int64) <<< (r11.toInt64 &&& 63)) ^^^ (-1 : Int64))) (x5 + (1 : Int32)) H
      · have H := ite_f H q14
        obtain rfl := some_e H
        exact J.vret d_W_measure_65 rfl rfl
theorem c_W_measure (w : Wd) (d : Nat) (c : cx)   (S : hs) (x1 : Int64)  {z : Int32 × hs} (H : f_W_measure S x1 = some z) : Cl w (d + 3) m_W_measure [.ref 138, .long x1] (mk c S) (none) (mk c z.2) := by
  refine Cl.of (Nat.le_refl _) (Nat.le_refl _) (by decide +kernel) (Nat.le_of_ble_eq_true rfl) ?_
  unfold f_W_measure at H
  generalize hN (mk c S) = n0
  generalize hZ (mk c S) = z0
  show J w (d + 3) m_W_measure (n0, z0, none, mk c z.2) 0 [some (.ref 138), some (.long x1), none, none, none, none, none, none, none] [] (mk c S)
  refine J.run b_W_measure_0_2 k_W_measure_0_2 rfl (show J w (d + 3) m_W_measure (n0, z0, none, mk c z.2) 2 [some (.ref 138), some (.long x1), none, some (.int (0 : Int32)), none, none, none, none, none] [] (mk c S) from ?_)
  refine J.mask [true, true, false, true, false, false, false, false, false] ?_
  refine lo_W_measure_2 w d c x1 ?_ 1000 S (0 : Int32) H
  · intro S8 y9 H
    try dsimp only at H
    refine J.run b_W_measure_36_5 k_W_measure_36_5 rfl (And.intro (okO_st (S := S8) rfl) (show J w (d + 3) m_W_measure (n0, z0, none, mk c z.2) 44 [some (.ref 138), none, none, some (.long (gJ S8 138 8)), none, some (.int (0 : Int32)), none, none, none] [] (mk c S8) from ?_))
    refine J.mask [true, false, false, true, false, true, false, false, false] ?_
    refine lo_W_measure_44 w d c   1000 S8 (gJ S8 138 8) (0 : Int32) H
def b_W_measureTo_0_4 : List Ins := [(.lconst 0, 0, 0, 0), (.lstore_n 2, 0, 0, 0), (.iconst (0), 0, 0, 0), (.istore 4, 0, 0, 0)]
theorem k_W_measureTo_0_4 : bok m_W_measureTo 0 b_W_measureTo_0_4 = true := by decide +kernel
def b_W_measureTo_5_3 : List Ins := [(.iload 4, 0, 0, 0), (.aload_n 0, 0, 0, 0), (.getfield 58, 4, 10, 0)]
theorem k_W_measureTo_5_3 : bok m_W_measureTo 5 b_W_measureTo_5_3 = true := by decide +kernel
def b_W_measureTo_14_6 : List Ins := [(.lload_n 2, 0, 0, 0), (.aload_n 0, 0, 0, 0), (.getfield 15, 4, 1, 2), (.iload 4, 0, 0, 0), (.iaload, 0, 0, 0), (.iload_n 1, 0, 0, 0)]
theorem k_W_measureTo_14_6 : bok m_W_measureTo 14 b_W_measureTo_14_6 = true := by decide +kernel
def b_W_measureTo_33_4 : List Ins := [(.lconst 0, 0, 0, 0), (.lor, 0, 0, 0), (.lstore_n 2, 0, 0, 0), (.iinc 4 (1), 0, 0, 0)]
theorem k_W_measureTo_33_4 : bok m_W_measureTo 33 b_W_measureTo_33_4 = true := by decide +kernel
def b_W_measureTo_26_3 : List Ins := [(.lconst 1, 0, 0, 0), (.iload 4, 0, 0, 0), (.lshl, 0, 0, 0)]
theorem k_W_measureTo_26_3 : bok m_W_measureTo 26 b_W_measureTo_26_3 = true := by decide +kernel
def b_W_measureTo_34_3 : List Ins := [(.lor, 0, 0, 0), (.lstore_n 2, 0, 0, 0), (.iinc 4 (1), 0, 0, 0)]
theorem k_W_measureTo_34_3 : bok m_W_measureTo 34 b_W_measureTo_34_3 = true := by decide +kernel
def b_W_measureTo_42_5 : List Ins := [(.aload_n 0, 0, 0, 0), (.lload_n 2, 0, 0, 0), (.aload_n 0, 0, 0, 0), (.getfield 39, 4, 8, 1), (.land, 0, 0, 0)]
theorem k_W_measureTo_42_5 : bok m_W_measureTo 42 b_W_measureTo_42_5 = true := by decide +kernel
theorem d_W_measureTo_11 : decode m_W_measureTo.2.1 11 = .ok (.if_icmp .ge (31), 3) := by decide +kernel
theorem d_W_measureTo_23 : decode m_W_measureTo.2.1 23 = .ok (.if_icmp .ne (10), 3) := by decide +kernel
theorem d_W_measureTo_39 : decode m_W_measureTo.2.1 39 = .ok (.goto (-34), 3) := by decide +kernel
theorem d_W_measureTo_30 : decode m_W_measureTo.2.1 30 = .ok (.goto (4), 3) := by decide +kernel
theorem d_W_measureTo_49 : decode m_W_measureTo.2.1 49 = .ok (.invokevirtual 94, 3) := by decide +kernel
theorem d_W_measureTo_52 : decode m_W_measureTo.2.1 52 = .ok (.return_, 1) := by decide +kernel
def lp_W_measureTo_5 (x1 : Int32)  (K0 : hs → Int64 → Int32 → Option (Int32 × hs)) : Nat → hs → Int64 → Int32 → Option (Int32 × hs)
  | 0, _, _, _ => none
  | n + 1, S, x2, x4 => (if (gI S 138 10) ≤ x4 then K0 S x2 x4 else ck (inb x4 40) ((if (gI S 140 (x4).toNatClampNeg) = x1 then lp_W_measureTo_5 x1 K0 n S (x2 ||| ((1 : Int64) <<< (x4.toInt64 &&& 63))) (x4 + (1 : Int32)) else lp_W_measureTo_5 x1 K0 n S (x2 ||| (0 : Int64)) (x4 + (1 : Int32)))))
def f_W_measureTo  (S : hs) (x1 : Int32) : Option (Int32 × hs) := lp_W_measureTo_5 x1 (fun (S4 : hs) (y5 : Int64) (y6 : Int32) => bd (f_W_measure  S4 (y5 &&& (gJ S4 138 8))) fun r7 S8 => some ((0 : Int32), S8)) 1000 S (0 : Int64) (0 : Int32)
theorem lo_W_measureTo_5 (w : Wd) (d : Nat) (c : cx) {n0 z0 : Nat} {z : Int32 × hs}  {K0 : hs → Int64 → Int32 → Option (Int32 × hs)} (x1 : Int32)   (hK0 : ∀ (S : hs) (x2 : Int64) (x4 : Int32), K0 S x2 x4 = some z → J w (d + 4) m_W_measureTo (n0, z0, none, mk c z.2) 42 [some (.ref 138), none, some (.long x2), none, none] [] (mk c S)) :
    ∀ (n : Nat) (S : hs) (x2 : Int64) (x4 : Int32), lp_W_measureTo_5 x1 K0 n S x2 x4 = some z → J w (d + 4) m_W_measureTo (n0, z0, none, mk c z.2) 5 [some (.ref 138), some (.int x1), some (.long x2), none, some (.int x4)] [] (mk c S) := by
  intro n
  induction n with
  | zero => intro S x2 x4 H; cases H
  | succ n ih =>
    intro S x2 x4 H
    rw [lp_W_measureTo_5] at H
    refine J.run b_W_measureTo_5_3 k_W_measureTo_5_3 rfl (And.intro (okO_st (S := S) rfl) (show J w (d + 4) m_W_measureTo (n0, z0, none, mk c z.2) 11 [some (.ref 138), some (.int x1), some (.long x2), none, some (.int x4)] [.int (gI S 138 10), .int x4] (mk c S) from ?_))
    refine J.cge (tgt := 42) d_W_measureTo_11 rfl (fun q1 => ?_) (fun q1 => ?_)
    · have H := ite_t H q1
      refine J.mask [true, false, true, false, false] ?_
      exact hK0 S x2 x4 H
    · have H := ite_f H q1
      obtain ⟨g2, H⟩ := ck_e H
      refine J.run b_W_measureTo_14_6 k_W_measureTo_14_6 rfl (And.intro (okO_st (S := S) rfl) (And.intro (okA_st (S := S) (n := 40) rfl g2) (show J w (d + 4) m_W_measureTo (n0, z0, none, mk c z.2) 23 [some (.ref 138), some (.int x1), some (.long x2), none, some (.int x4)] [.int x1, .int (gI S 140 (x4).toNatClampNeg), .long x2] (mk c S) from ?_)))
      refine J.cne (tgt := 33) d_W_measureTo_23 rfl (fun q3 => ?_) (fun q3 => ?_)
      · have H := ite_f H q3
        refine J.run b_W_measureTo_33_4 k_W_measureTo_33_4 rfl (show J w (d + 4) m_W_measureTo (n0, z0, none, mk c z.2) 39 [some (.ref 138), some (.int x1), some (.long (x2 ||| (0 : Int64))), none, some (.int (x4 + (1 : Int32)))] [] (mk c S) from ?_)
        refine J.goto (tgt := 5) d_W_measureTo_39 rfl ?_
        refine J.mask [true, true, true, false, true] ?_
        exact ih S (x2 ||| (0 : Int64)) (x4 + (1 : Int32)) H
      · have H := ite_t H q3
        refine J.run b_W_measureTo_26_3 k_W_measureTo_26_3 rfl (show J w (d + 4) m_W_measureTo (n0, z0, none, mk c z.2) 30 [some (.ref 138), some (.int x1), some (.long x2), none, some (.int x4)] [.long ((1 : Int64) <<< (x4.toInt64 &&& 63)), .long x2] (mk c S) from ?_)
        refine J.goto (tgt := 34) d_W_measureTo_30 rfl ?_
        refine J.run b_W_measureTo_34_3 k_W_measureTo_34_3 rfl (show J w (d + 4) m_W_measureTo (n0, z0, none, mk c z.2) 39 [some (.ref 138), some (.int x1), some (.long (x2 ||| ((1 : Int64) <<< (x4.toInt64 &&& 63)))), none, some (.int (x4 + (1 : Int32)))] [] (mk c S) from ?_)
        refine J.goto (tgt := 5) d_W_measureTo_39 rfl ?_
        refine J.mask [true, true, true, false, true] ?_
        exact ih S (x2 ||| ((1 : Int64) <<< (x4.toInt64 &&& 63))) (x4 + (1 : Int32)) H
theorem c_W_measureTo (w : Wd) (d : Nat) (c : cx)   (S : hs) (x1 : Int32)  {z : Int32 × hs} (H : f_W_measureTo S x1 = some z) : Cl w (d + 4) m_W_measureTo [.ref 138, .int x1] (mk c S) (none) (mk c z.2) := by
  refine Cl.of (Nat.le_refl _) (Nat.le_refl _) (by decide +kernel) (Nat.le_of_ble_eq_true rfl) ?_
  unfold f_W_measureTo at H
  generalize hN (mk c S) = n0
  generalize hZ (mk c S) = z0
  show J w (d + 4) m_W_measureTo (n0, z0, none, mk c z.2) 0 [some (.ref 138), some (.int x1), none, none, none] [] (mk c S)
  refine J.run b_W_measureTo_0_4 k_W_measureTo_0_4 rfl (show J w (d + 4) m_W_measureTo (n0, z0, none, mk c z.2) 5 [some (.ref 138), some (.int x1), some (.long (0 : Int64)), none, some (.int (0 : Int32))] [] (mk c S) from ?_)
  refine J.mask [true, true, true, false, true] ?_
  refine lo_W_measureTo_5 w d c x1 ?_ 1000 S (0 : Int64) (0 : Int32) H
  · intro S4 y5 y6 H
    try dsimp only at H
    refine J.run b_W_measureTo_42_5 k_W_measureTo_42_5 rfl (And.intro (okO_st (S := S4) rfl) (show J w (d + 4) m_W_measureTo (n0, z0, none, mk c z.2) 49 [some (.ref 138), none, some (.long y5), none, none] [.long (y5 &&& (gJ S4 138 8)), .ref 138] (mk c S4) from ?_))
    obtain ⟨r7, S8, h9, H⟩ := bd_e H
    refine J.callV (y := m_W_measure) (av := [.long (y5 &&& (gJ S4 138 8))]) (rest := []) (q := 138) l_W_94 d_W_measureTo_49 (isC_st rfl rfl) (c_W_measure w (d + 0) c  S4 (y5 &&& (gJ S4 138 8)) h9) rfl (Nat.le_of_ble_eq_true rfl) ⟨Nat.le_refl _, Nat.le_refl _⟩ (show J w (d + 4) m_W_measureTo (n0, z0, none, mk c z.2) 52 [some (.ref 138), none, some (.long y5), none, none] [] (mk c S8) from ?_)
    obtain rfl := some_e H
    exact J.vret d_W_measureTo_52 rfl rfl
def b_W_leftFrom_0_1 : List Ins := [(.iload_n 1, 0, 0, 0)]
theorem k_W_leftFrom_0_1 : bok m_W_leftFrom 0 b_W_leftFrom_0_1 = true := by decide +kernel
def b_W_leftFrom_21_1 : List Ins := [(.ldc 93, 0, 1000000, 0)]
theorem k_W_leftFrom_21_1 : bok m_W_leftFrom 21 b_W_leftFrom_21_1 = true := by decide +kernel
def b_W_leftFrom_4_3 : List Ins := [(.iload_n 1, 0, 0, 0), (.aload_n 0, 0, 0, 0), (.getfield 58, 4, 10, 0)]
theorem k_W_leftFrom_4_3 : bok m_W_leftFrom 4 b_W_leftFrom_4_3 = true := by decide +kernel
def b_W_leftFrom_12_4 : List Ins := [(.aload_n 0, 0, 0, 0), (.getfield 28, 4, 5, 2), (.iload_n 1, 0, 0, 0), (.iaload, 0, 0, 0)]
theorem k_W_leftFrom_12_4 : bok m_W_leftFrom 12 b_W_leftFrom_12_4 = true := by decide +kernel
theorem d_W_leftFrom_1 : decode m_W_leftFrom.2.1 1 = .ok (.ifCond .lt (20), 3) := by decide +kernel
theorem d_W_leftFrom_23 : decode m_W_leftFrom.2.1 23 = .ok (.ireturn, 1) := by decide +kernel
theorem d_W_leftFrom_9 : decode m_W_leftFrom.2.1 9 = .ok (.if_icmp .ge (12), 3) := by decide +kernel
theorem d_W_leftFrom_18 : decode m_W_leftFrom.2.1 18 = .ok (.goto (5), 3) := by decide +kernel
def f_W_leftFrom  (S : hs) (x1 : Int32) : Option (Int32 × hs) := (if x1 < 0 then some ((1000000 : Int32), S) else (if (gI S 138 10) ≤ x1 then some ((1000000 : Int32), S) else ck (inb x1 40) (some ((gI S 144 (x1).toNatClampNeg), S))))
theorem c_W_leftFrom (w : Wd) (d : Nat) (c : cx)   (S : hs) (x1 : Int32)  {z : Int32 × hs} (H : f_W_leftFrom S x1 = some z) : Cl w (d + 1) m_W_leftFrom [.ref 138, .int x1] (mk c S) (some (.int z.1)) (mk c z.2) := by
  refine Cl.of (Nat.le_refl _) (Nat.le_refl _) (by decide +kernel) (Nat.le_of_ble_eq_true rfl) ?_
  unfold f_W_leftFrom at H
  generalize hN (mk c S) = n0
  generalize hZ (mk c S) = z0
  show J w (d + 1) m_W_leftFrom (n0, z0, some (.int z.1), mk c z.2) 0 [some (.ref 138), some (.int x1)] [] (mk c S)
  refine J.run b_W_leftFrom_0_1 k_W_leftFrom_0_1 rfl (show J w (d + 1) m_W_leftFrom (n0, z0, some (.int z.1), mk c z.2) 1 [some (.ref 138), some (.int x1)] [.int x1] (mk c S) from ?_)
  refine J.zlt (tgt := 21) d_W_leftFrom_1 rfl (fun q1 => ?_) (fun q1 => ?_)
  · have H := ite_t H q1
    refine J.run b_W_leftFrom_21_1 k_W_leftFrom_21_1 rfl (show J w (d + 1) m_W_leftFrom (n0, z0, some (.int z.1), mk c z.2) 23 [some (.ref 138), some (.int x1)] [.int (1000000 : Int32)] (mk c S) from ?_)
    obtain rfl := some_e H
    exact J.iret d_W_leftFrom_23 rfl rfl
  · have H := ite_f H q1
    refine J.run b_W_leftFrom_4_3 k_W_leftFrom_4_3 rfl (And.intro (okO_st (S := S) rfl) (show J w (d + 1) m_W_leftFrom (n0, z0, some (.int z.1), mk c z.2) 9 [some (.ref 138), some (.int x1)] [.int (gI S 138 10), .int x1] (mk c S) from ?_))
    refine J.cge (tgt := 21) d_W_leftFrom_9 rfl (fun q2 => ?_) (fun q2 => ?_)
    · have H := ite_t H q2
      refine J.run b_W_leftFrom_21_1 k_W_leftFrom_21_1 rfl (show J w (d + 1) m_W_leftFrom (n0, z0, some (.int z.1), mk c z.2) 23 [some (.ref 138), some (.int x1)] [.int (1000000 : Int32)] (mk c S) from ?_)
      obtain rfl := some_e H
      exact J.iret d_W_leftFrom_23 rfl rfl
    · have H := ite_f H q2
      obtain ⟨g3, H⟩ := ck_e H
      refine J.run b_W_leftFrom_12_4 k_W_leftFrom_12_4 rfl (And.intro (okO_st (S := S) rfl) (And.intro (okA_st (S := S) (n := 40) rfl g3) (show J w (d + 1) m_W_leftFrom (n0, z0, some (.int z.1), mk c z.2) 18 [some (.ref 138), some (.int x1)] [.int (gI S 144 (x1).toNatClampNeg)] (mk c S) from ?_)))
      refine J.goto (tgt := 23) d_W_leftFrom_18 rfl ?_
      obtain rfl := some_e H
      exact J.iret d_W_leftFrom_23 rfl rfl
def b_W_firstFrom_0_2 : List Ins := [(.aload_n 0, 0, 0, 0), (.iload_n 1, 0, 0, 0)]
theorem k_W_firstFrom_0_2 : bok m_W_firstFrom 0 b_W_firstFrom_0_2 = true := by decide +kernel
def b_W_firstFrom_5_3 : List Ins := [(.istore_n 2, 0, 0, 0), (.iload_n 2, 0, 0, 0), (.ldc 93, 0, 1000000, 0)]
theorem k_W_firstFrom_5_3 : bok m_W_firstFrom 5 b_W_firstFrom_5_3 = true := by decide +kernel
def b_W_firstFrom_16_1 : List Ins := [(.bipush (-3), 0, 0, 0)]
theorem k_W_firstFrom_16_1 : bok m_W_firstFrom 16 b_W_firstFrom_16_1 = true := by decide +kernel
def b_W_firstFrom_12_1 : List Ins := [(.iload_n 2, 0, 0, 0)]
theorem k_W_firstFrom_12_1 : bok m_W_firstFrom 12 b_W_firstFrom_12_1 = true := by decide +kernel
def b_W_firstFrom_19_2 : List Ins := [(.iconst (0), 0, 0, 0), (.istore_n 3, 0, 0, 0)]
theorem k_W_firstFrom_19_2 : bok m_W_firstFrom 19 b_W_firstFrom_19_2 = true := by decide +kernel
def b_W_firstFrom_21_3 : List Ins := [(.iload_n 3, 0, 0, 0), (.aload_n 0, 0, 0, 0), (.getfield 58, 4, 10, 0)]
theorem k_W_firstFrom_21_3 : bok m_W_firstFrom 21 b_W_firstFrom_21_3 = true := by decide +kernel
def b_W_firstFrom_72_1 : List Ins := [(.bipush (-3), 0, 0, 0)]
theorem k_W_firstFrom_72_1 : bok m_W_firstFrom 72 b_W_firstFrom_72_1 = true := by decide +kernel
def b_W_firstFrom_29_8 : List Ins := [(.aload_n 0, 0, 0, 0), (.getfield 21, 4, 3, 2), (.iload_n 1, 0, 0, 0), (.laload, 0, 0, 0), (.aload_n 0, 0, 0, 0), (.getfield 39, 4, 8, 1), (.land, 0, 0, 0), (.iload_n 3, 0, 0, 0)]
theorem k_W_firstFrom_29_8 : bok m_W_firstFrom 29 b_W_firstFrom_29_8 = true := by decide +kernel
def b_W_firstFrom_66_1 : List Ins := [(.iinc 3 (1), 0, 0, 0)]
theorem k_W_firstFrom_66_1 : bok m_W_firstFrom 66 b_W_firstFrom_66_1 = true := by decide +kernel
def b_W_firstFrom_47_10 : List Ins := [(.aload_n 0, 0, 0, 0), (.getfield 28, 4, 5, 2), (.iload_n 3, 0, 0, 0), (.iaload, 0, 0, 0), (.aload_n 0, 0, 0, 0), (.getfield 18, 4, 2, 2), (.iload_n 3, 0, 0, 0), (.iaload, 0, 0, 0), (.iadd, 0, 0, 0), (.iload_n 2, 0, 0, 0)]
theorem k_W_firstFrom_47_10 : bok m_W_firstFrom 47 b_W_firstFrom_47_10 = true := by decide +kernel
def b_W_firstFrom_64_1 : List Ins := [(.iload_n 3, 0, 0, 0)]
theorem k_W_firstFrom_64_1 : bok m_W_firstFrom 64 b_W_firstFrom_64_1 = true := by decide +kernel
theorem d_W_firstFrom_2 : decode m_W_firstFrom.2.1 2 = .ok (.invokevirtual 108, 3) := by decide +kernel
theorem d_W_firstFrom_9 : decode m_W_firstFrom.2.1 9 = .ok (.if_icmp .eq (7), 3) := by decide +kernel
theorem d_W_firstFrom_18 : decode m_W_firstFrom.2.1 18 = .ok (.ireturn, 1) := by decide +kernel
theorem d_W_firstFrom_13 : decode m_W_firstFrom.2.1 13 = .ok (.ifCond .ne (6), 3) := by decide +kernel
theorem d_W_firstFrom_26 : decode m_W_firstFrom.2.1 26 = .ok (.if_icmp .ge (46), 3) := by decide +kernel
theorem d_W_firstFrom_74 : decode m_W_firstFrom.2.1 74 = .ok (.ireturn, 1) := by decide +kernel
theorem d_W_firstFrom_41 : decode m_W_firstFrom.2.1 41 = .ok (.invokestatic 98, 3) := by decide +kernel
theorem d_W_firstFrom_44 : decode m_W_firstFrom.2.1 44 = .ok (.ifCond .eq (22), 3) := by decide +kernel
theorem d_W_firstFrom_69 : decode m_W_firstFrom.2.1 69 = .ok (.goto (-48), 3) := by decide +kernel
theorem d_W_firstFrom_61 : decode m_W_firstFrom.2.1 61 = .ok (.if_icmp .ne (5), 3) := by decide +kernel
theorem d_W_firstFrom_65 : decode m_W_firstFrom.2.1 65 = .ok (.ireturn, 1) := by decide +kernel
def lp_W_firstFrom_21 (x1 : Int32) (x2 : Int32)   : Nat → hs → Int32 → Option (Int32 × hs)
  | 0, _, _ => none
  | n + 1, S, x3 => (if (gI S 138 10) ≤ x3 then some ((-3 : Int32), S) else ck (inb x1 40) (bd (f_X_isIn  S ((gJ S 142 (x1).toNatClampNeg) &&& (gJ S 138 8)) x3) fun r8 S9 => (if r8 = 0 then lp_W_firstFrom_21 x1 x2 n S9 (x3 + (1 : Int32)) else ck (inb x3 40) ((if ((gI S9 144 (x3).toNatClampNeg) + (gI S9 141 (x3).toNatClampNeg)) = x2 then some (x3, S9) else lp_W_firstFrom_21 x1 x2 n S9 (x3 + (1 : Int32)))))))
def f_W_firstFrom  (S : hs) (x1 : Int32) : Option (Int32 × hs) := bd (f_W_leftFrom  S x1) fun r1 S2 => (if r1 = (1000000 : Int32) then some ((-3 : Int32), S2) else (if r1 = 0 then some ((-3 : Int32), S2) else lp_W_firstFrom_21 x1 r1 1000 S2 (0 : Int32)))
theorem lo_W_firstFrom_21 (w : Wd) (d : Nat) (c : cx) {n0 z0 : Nat} {z : Int32 × hs}   (x1 : Int32) (x2 : Int32)    :
    ∀ (n : Nat) (S : hs) (x3 : Int32), lp_W_firstFrom_21 x1 x2 n S x3 = some z → J w (d + 2) m_W_firstFrom (n0, z0, some (.int z.1), mk c z.2) 21 [some (.ref 138), some (.int x1), some (.int x2), some (.int x3)] [] (mk c S) := by
  intro n
  induction n with
  | zero => intro S x3 H; cases H
  | succ n ih =>
    intro S x3 H
    rw [lp_W_firstFrom_21] at H
    refine J.run b_W_firstFrom_21_3 k_W_firstFrom_21_3 rfl (And.intro (okO_st (S := S) rfl) (show J w (d + 2) m_W_firstFrom (n0, z0, some (.int z.1), mk c z.2) 26 [some (.ref 138), some (.int x1), some (.int x2), some (.int x3)] [.int (gI S 138 10), .int x3] (mk c S) from ?_))
    refine J.cge (tgt := 72) d_W_firstFrom_26 rfl (fun q6 => ?_) (fun q6 => ?_)
    · have H := ite_t H q6
      refine J.run b_W_firstFrom_72_1 k_W_firstFrom_72_1 rfl (show J w (d + 2) m_W_firstFrom (n0, z0, some (.int z.1), mk c z.2) 74 [some (.ref 138), some (.int x1), some (.int x2), some (.int x3)] [.int (-3 : Int32)] (mk c S) from ?_)
      obtain rfl := some_e H
      exact J.iret d_W_firstFrom_74 rfl rfl
    · have H := ite_f H q6
      obtain ⟨g7, H⟩ := ck_e H
      refine J.run b_W_firstFrom_29_8 k_W_firstFrom_29_8 rfl (And.intro (okO_st (S := S) rfl) (And.intro (okA_st (S := S) (n := 40) rfl g7) (And.intro (okO_st (S := S) rfl) (show J w (d + 2) m_W_firstFrom (n0, z0, some (.int z.1), mk c z.2) 41 [some (.ref 138), some (.int x1), some (.int x2), some (.int x3)] [.int x3, .long ((gJ S 142 (x1).toNatClampNeg) &&& (gJ S 138 8))] (mk c S) from ?_))))
      obtain ⟨r8, S9, h10, H⟩ := bd_e H
      refine J.callSn (y := m_X_isIn) (av := [.long ((gJ S 142 (x1).toNatClampNeg) &&& (gJ S 138 8)), .int x3]) (rest := []) l_W_98 d_W_firstFrom_41 (c_X_isIn w (d + 0) c  S ((gJ S 142 (x1).toNatClampNeg) &&& (gJ S 138 8)) x3 h10) rfl (Nat.le_of_ble_eq_true rfl) ⟨Nat.le_refl _, Nat.le_refl _⟩ (show J w (d + 2) m_W_firstFrom (n0, z0, some (.int z.1), mk c z.2) 44 [some (.ref 138), some (.int x1), some (.int x2), some (.int x3)] [.int r8] (mk c S9) from ?_)
      refine J.zeq (tgt := 66) d_W_firstFrom_44 rfl (fun q11 => ?_) (fun q11 => ?_)
      · have H := ite_t H q11
        refine J.run b_W_firstFrom_66_1 k_W_firstFrom_66_1 rfl (show J w (d + 2) m_W_firstFrom (n0, z0, some (.int z.1), mk c z.2) 69 [some (.ref 138), some (.int x1), some (.int x2), some (.int (x3 + (1 : Int32)))] [] (mk c S9) from ?_)
        refine J.goto (tgt := 21) d_W_firstFrom_69 rfl ?_
        refine J.mask [true, true, true, true] ?_
        exact ih S9 (x3 + (1 : Int32)) H
      · have H := ite_f H q11
        obtain ⟨g12, H⟩ := ck_e H
        refine J.run b_W_firstFrom_47_10 k_W_firstFrom_47_10 rfl (And.intro (okO_st (S := S9) rfl) (And.intro (okA_st (S := S9) (n := 40) rfl g12) (And.intro (okO_st (S := S9) rfl) (And.intro (okA_st (S := S9) (n := 40) rfl g12) (show J w (d + 2) m_W_firstFrom (n0, z0, some (.int z.1), mk c z.2) 61 [some (.ref 138), some (.int x1), some (.int x2), some (.int x3)] [.int x2, .int ((gI S9 144 (x3).toNatClampNeg) + (gI S9 141 (x3).toNatClampNeg))] (mk c S9) from ?_)))))
        refine J.cne (tgt := 66) d_W_firstFrom_61 rfl (fun q13 => ?_) (fun q13 => ?_)
        · have H := ite_f H q13
          refine J.run b_W_firstFrom_66_1 k_W_firstFrom_66_1 rfl (show J w (d + 2) m_W_firstFrom (n0, z0, some (.int z.1), mk c z.2) 69 [some (.ref 138), some (.int x1), some (.int x2), some (.int (x3 + (1 : Int32)))] [] (mk c S9) from ?_)
          refine J.goto (tgt := 21) d_W_firstFrom_69 rfl ?_
          refine J.mask [true, true, true, true] ?_
          exact ih S9 (x3 + (1 : Int32)) H
        · have H := ite_t H q13
          refine J.run b_W_firstFrom_64_1 k_W_firstFrom_64_1 rfl (show J w (d + 2) m_W_firstFrom (n0, z0, some (.int z.1), mk c z.2) 65 [some (.ref 138), some (.int x1), some (.int x2), some (.int x3)] [.int x3] (mk c S9) from ?_)
          obtain rfl := some_e H
          exact J.iret d_W_firstFrom_65 rfl rfl
theorem c_W_firstFrom (w : Wd) (d : Nat) (c : cx)   (S : hs) (x1 : Int32)  {z : Int32 × hs} (H : f_W_firstFrom S x1 = some z) : Cl w (d + 2) m_W_firstFrom [.ref 138, .int x1] (mk c S) (some (.int z.1)) (mk c z.2) := by
  refine Cl.of (Nat.le_refl _) (Nat.le_refl _) (by decide +kernel) (Nat.le_of_ble_eq_true rfl) ?_
  unfold f_W_firstFrom at H
  generalize hN (mk c S) = n0
  generalize hZ (mk c S) = z0
  show J w (d + 2) m_W_firstFrom (n0, z0, some (.int z.1), mk c z.2) 0 [some (.ref 138), some (.int x1), none, none] [] (mk c S)
  refine J.run b_W_firstFrom_0_2 k_W_firstFrom_0_2 rfl (show J w (d + 2) m_W_firstFrom (n0, z0, some (.int z.1), mk c z.2) 2 [some (.ref 138), some (.int x1), none, none] [.int x1, .ref 138] (mk c S) from ?_)
  obtain ⟨r1, S2, h3, H⟩ := bd_e H
  refine J.callV (y := m_W_leftFrom) (av := [.int x1]) (rest := []) (q := 138) l_W_108 d_W_firstFrom_2 (isC_st rfl rfl) (c_W_leftFrom w (d + 0) c  S x1 h3) rfl (Nat.le_of_ble_eq_true rfl) ⟨Nat.le_refl _, Nat.le_refl _⟩ (show J w (d + 2) m_W_firstFrom (n0, z0, some (.int z.1), mk c z.2) 5 [some (.ref 138), some (.int x1), none, none] [.int r1] (mk c S2) from ?_)
  refine J.run b_W_firstFrom_5_3 k_W_firstFrom_5_3 rfl (show J w (d + 2) m_W_firstFrom (n0, z0, some (.int z.1), mk c z.2) 9 [some (.ref 138), some (.int x1), some (.int r1), none] [.int (1000000 : Int32), .int r1] (mk c S2) from ?_)
  refine J.ceq (tgt := 16) d_W_firstFrom_9 rfl (fun q4 => ?_) (fun q4 => ?_)
  · have H := ite_t H q4
    refine J.run b_W_firstFrom_16_1 k_W_firstFrom_16_1 rfl (show J w (d + 2) m_W_firstFrom (n0, z0, some (.int z.1), mk c z.2) 18 [some (.ref 138), some (.int x1), some (.int r1), none] [.int (-3 : Int32)] (mk c S2) from ?_)
    obtain rfl := some_e H
    exact J.iret d_W_firstFrom_18 rfl rfl
  · have H := ite_f H q4
    refine J.run b_W_firstFrom_12_1 k_W_firstFrom_12_1 rfl (show J w (d + 2) m_W_firstFrom (n0, z0, some (.int z.1), mk c z.2) 13 [some (.ref 138), some (.int x1), some (.int r1), none] [.int r1] (mk c S2) from ?_)
    refine J.zne (tgt := 19) d_W_firstFrom_13 rfl (fun q5 => ?_) (fun q5 => ?_)
    · have H := ite_f H q5
      refine J.run b_W_firstFrom_19_2 k_W_firstFrom_19_2 rfl (show J w (d + 2) m_W_firstFrom (n0, z0, some (.int z.1), mk c z.2) 21 [some (.ref 138), some (.int x1), some (.int r1), some (.int (0 : Int32))] [] (mk c S2) from ?_)
      refine J.mask [true, true, true, true] ?_
      refine lo_W_firstFrom_21 w d c x1 r1  1000 S2 (0 : Int32) H
    · have H := ite_t H q5
      refine J.run b_W_firstFrom_16_1 k_W_firstFrom_16_1 rfl (show J w (d + 2) m_W_firstFrom (n0, z0, some (.int z.1), mk c z.2) 18 [some (.ref 138), some (.int x1), some (.int r1), none] [.int (-3 : Int32)] (mk c S2) from ?_)
      obtain rfl := some_e H
      exact J.iret d_W_firstFrom_18 rfl rfl
def b_Ar_fill_aIIV_0_4 : List Ins := [(.iconst (0), 0, 0, 0), (.istore_n 2, 0, 0, 0), (.aload_n 0, 0, 0, 0), (.arraylength, 0, 0, 0)]
theorem k_Ar_fill_aIIV_0_4 : bok m_Ar_fill_aIIV 0 b_Ar_fill_aIIV_0_4 = true := by decide +kernel
def b_Ar_fill_aIIV_4_1 : List Ins := [(.istore_n 3, 0, 0, 0)]
theorem k_Ar_fill_aIIV_4_1 : bok m_Ar_fill_aIIV 4 b_Ar_fill_aIIV_4_1 = true := by decide +kernel
def b_Ar_fill_aIIV_5_2 : List Ins := [(.iload_n 2, 0, 0, 0), (.iload_n 3, 0, 0, 0)]
theorem k_Ar_fill_aIIV_5_2 : bok m_Ar_fill_aIIV 5 b_Ar_fill_aIIV_5_2 = true := by decide +kernel
def b_Ar_fill_aIIV_10_5 : List Ins := [(.aload_n 0, 0, 0, 0), (.iload_n 2, 0, 0, 0), (.iload_n 1, 0, 0, 0), (.iastore, 0, 0, 0), (.iinc 2 (1), 0, 0, 0)]
theorem k_Ar_fill_aIIV_10_5 : bok m_Ar_fill_aIIV 10 b_Ar_fill_aIIV_10_5 = true := by decide +kernel
theorem d_Ar_fill_aIIV_7 : decode m_Ar_fill_aIIV.2.1 7 = .ok (.if_icmp .ge (13), 3) := by decide +kernel
theorem d_Ar_fill_aIIV_20 : decode m_Ar_fill_aIIV.2.1 20 = .ok (.return_, 1) := by decide +kernel
theorem d_Ar_fill_aIIV_17 : decode m_Ar_fill_aIIV.2.1 17 = .ok (.goto (-12), 3) := by decide +kernel
def lp_Ar_fill_aIIV_w147_5 (a0 : Nat) (x1 : Int32) (x3 : Int32)   : Nat → hs → Int32 → Option (Int32 × hs)
  | 0, _, _ => none
  | n + 1, S, x2 => (if x3 ≤ x2 then some ((0 : Int32), S) else ck (inb x2 12) (lp_Ar_fill_aIIV_w147_5 a0 x1 x3 n (uI S (147 + a0) (x2).toNatClampNeg x1) (x2 + (1 : Int32))))
def f_Ar_fill_aIIV_w147  (S : hs) (a0 : Nat) (x1 : Int32) : Option (Int32 × hs) := lp_Ar_fill_aIIV_w147_5 a0 x1 (12 : Int32) 1000 S (0 : Int32)
theorem lo_Ar_fill_aIIV_w147_5 (w : Wd) (d : Nat) (c : cx) {n0 z0 : Nat} {z : Int32 × hs}   (a0 : Nat) (x1 : Int32) (x3 : Int32) (ha0 : a0 < 12)   :
    ∀ (n : Nat) (S : hs) (x2 : Int32), lp_Ar_fill_aIIV_w147_5 a0 x1 x3 n S x2 = some z → J w (d + 1) m_Ar_fill_aIIV (n0, z0, none, mk c z.2) 5 [some (.ref (147 + a0)), some (.int x1), some (.int x2), some (.int x3)] [] (mk c S) := by
  intro n
  induction n with
  | zero => intro S x2 H; cases H
  | succ n ih =>
    intro S x2 H
    rw [lp_Ar_fill_aIIV_w147_5] at H
    refine J.run b_Ar_fill_aIIV_5_2 k_Ar_fill_aIIV_5_2 rfl (show J w (d + 1) m_Ar_fill_aIIV (n0, z0, none, mk c z.2) 7 [some (.ref (147 + a0)), some (.int x1), some (.int x2), some (.int x3)] [.int x3, .int x2] (mk c S) from ?_)
    refine J.cge (tgt := 20) d_Ar_fill_aIIV_7 rfl (fun q1 => ?_) (fun q1 => ?_)
    · have H := ite_t H q1
      obtain rfl := some_e H
      exact J.vret d_Ar_fill_aIIV_20 rfl rfl
    · have H := ite_f H q1
      obtain ⟨g2, H⟩ := ck_e H
      refine J.run b_Ar_fill_aIIV_10_5 k_Ar_fill_aIIV_10_5 rfl (And.intro (okB_row (S := S) (b := 147) (cnt := 12) (n := 12) rfl ha0 g2) (show J w (d + 1) m_Ar_fill_aIIV (n0, z0, none, mk c z.2) 17 [some (.ref (147 + a0)), some (.int x1), some (.int (x2 + (1 : Int32))), some (.int x3)] [] (mk c (uI S (147 + a0) (x2).toNatClampNeg x1)) from ?_))
      refine J.goto (tgt := 5) d_Ar_fill_aIIV_17 rfl ?_
      refine J.mask [true, true, true, true] ?_
      exact ih (uI S (147 + a0) (x2).toNatClampNeg x1) (x2 + (1 : Int32)) H
theorem c_Ar_fill_aIIV_w147 (w : Wd) (d : Nat) (c : cx)   (S : hs) (a0 : Nat) (x1 : Int32) (ha0 : a0 < 12) {z : Int32 × hs} (H : f_Ar_fill_aIIV_w147 S a0 x1 = some z) : Cl w (d + 1) m_Ar_fill_aIIV [.ref (147 + a0), .int x1] (mk c S) (none) (mk c z.2) := by
  refine Cl.of (Nat.le_refl _) (Nat.le_refl _) (by decide +kernel) (Nat.le_of_ble_eq_true rfl) ?_
  unfold f_Ar_fill_aIIV_w147 at H
  generalize hN (mk c S) = n0
  generalize hZ (mk c S) = z0
  show J w (d + 1) m_Ar_fill_aIIV (n0, z0, none, mk c z.2) 0 [some (.ref (147 + a0)), some (.int x1), none, none] [] (mk c S)
  refine J.run b_Ar_fill_aIIV_0_4 k_Ar_fill_aIIV_0_4 rfl (And.intro (okN_row (S := S) (b := 147) (cnt := 12) (k := 20) (n := 12) rfl rfl ha0) (show J w (d + 1) m_Ar_fill_aIIV (n0, z0, none, mk c z.2) 4 [some (.ref (147 + a0)), some (.int x1), some (.int (0 : Int32)), none] [.int (Int32.ofNat (hK (mk c S) (147 + a0)).2)] (mk c S) from ?_))
  rw [show hK (mk c S) (147 + a0) = (20, 12) from (rws_e (b := 147) (cnt := 12) rfl ha0).2.2]
  show J w (d + 1) m_Ar_fill_aIIV (n0, z0, none, mk c z.2) 4 [some (.ref (147 + a0)), some (.int x1), some (.int (0 : Int32)), none] [.int (12 : Int32)] (mk c S)
  refine J.run b_Ar_fill_aIIV_4_1 k_Ar_fill_aIIV_4_1 rfl (show J w (d + 1) m_Ar_fill_aIIV (n0, z0, none, mk c z.2) 5 [some (.ref (147 + a0)), some (.int x1), some (.int (0 : Int32)), some (.int (12 : Int32))] [] (mk c S) from ?_)
  refine J.mask [true, true, true, true] ?_
  refine lo_Ar_fill_aIIV_w147_5 w d c a0 x1 (12 : Int32) ha0  1000 S (0 : Int32) H
def b_W_goBy_0_2 : List Ins := [(.iconst (0), 0, 0, 0), (.istore 4, 0, 0, 0)]
theorem k_W_goBy_0_2 : bok m_W_goBy 0 b_W_goBy_0_2 = true := by decide +kernel
def b_W_goBy_3_3 : List Ins := [(.iload 4, 0, 0, 0), (.aload_n 0, 0, 0, 0), (.getfield 64, 4, 11, 0)]
theorem k_W_goBy_3_3 : bok m_W_goBy 3 b_W_goBy_3_3 = true := by decide +kernel
def b_W_goBy_12_2 : List Ins := [(.iload_n 2, 0, 0, 0), (.ldc 93, 0, 1000000, 0)]
theorem k_W_goBy_12_2 : bok m_W_goBy 12 b_W_goBy_12_2 = true := by decide +kernel
def b_W_goBy_18_10 : List Ins := [(.aload_n 1, 0, 0, 0), (.iload 4, 0, 0, 0), (.aload_n 1, 0, 0, 0), (.iload 4, 0, 0, 0), (.iaload, 0, 0, 0), (.iload_n 2, 0, 0, 0), (.aload_n 3, 0, 0, 0), (.iload 4, 0, 0, 0), (.iaload, 0, 0, 0), (.iadd, 0, 0, 0)]
theorem k_W_goBy_18_10 : bok m_W_goBy 18 b_W_goBy_18_10 = true := by decide +kernel
def b_W_goBy_34_2 : List Ins := [(.iastore, 0, 0, 0), (.iinc 4 (1), 0, 0, 0)]
theorem k_W_goBy_34_2 : bok m_W_goBy 34 b_W_goBy_34_2 = true := by decide +kernel
theorem d_W_goBy_9 : decode m_W_goBy.2.1 9 = .ok (.if_icmp .ge (32), 3) := by decide +kernel
theorem d_W_goBy_41 : decode m_W_goBy.2.1 41 = .ok (.return_, 1) := by decide +kernel
theorem d_W_goBy_15 : decode m_W_goBy.2.1 15 = .ok (.if_icmp .ge (26), 3) := by decide +kernel
theorem d_W_goBy_31 : decode m_W_goBy.2.1 31 = .ok (.invokestatic 52, 3) := by decide +kernel
theorem d_W_goBy_38 : decode m_W_goBy.2.1 38 = .ok (.goto (-35), 3) := by decide +kernel
def lp_W_goBy_w147_w147_3 (a1 : Nat) (x2 : Int32) (a3 : Nat)   : Nat → hs → Int32 → Option (Int32 × hs)
  | 0, _, _ => none
  | n + 1, S, x4 => (if (gI S 138 11) ≤ x4 then some ((0 : Int32), S) else (if (1000000 : Int32) ≤ x2 then some ((0 : Int32), S) else ck (inb x4 12) (bd (f_Ma_min  S (gI S (147 + a1) (x4).toNatClampNeg) (x2 + (gI S (147 + a3) (x4).toNatClampNeg))) fun r4 S5 => lp_W_goBy_w147_w147_3 a1 x2 a3 n (uI S5 (147 + a1) (x4).toNatClampNeg r4) (x4 + (1 : Int32)))))
def f_W_goBy_w147_w147  (S : hs) (a1 : Nat) (x2 : Int32) (a3 : Nat) : Option (Int32 × hs) := lp_W_goBy_w147_w147_3 a1 x2 a3 1000 S (0 : Int32)
theorem lo_W_goBy_w147_w147_3 (w : Wd) (d : Nat) (c : cx) {n0 z0 : Nat} {z : Int32 × hs}   (a1 : Nat) (x2 : Int32) (a3 : Nat) (ha1 : a1 < 12) (ha3 : a3 < 12)   :
    ∀ (n : Nat) (S : hs) (x4 : Int32), lp_W_goBy_w147_w147_3 a1 x2 a3 n S x4 = some z → J w (d + 2) m_W_goBy (n0, z0, none, mk c z.2) 3 [some (.ref 138), some (.ref (147 + a1)), some (.int x2), some (.ref (147 + a3)), some (.int x4)] [] (mk c S) := by
  intro n
  induction n with
  | zero => intro S x4 H; cases H
  | succ n ih =>
    intro S x4 H
    rw [lp_W_goBy_w147_w147_3] at H
    refine J.run b_W_goBy_3_3 k_W_goBy_3_3 rfl (And.intro (okO_st (S := S) rfl) (show J w (d + 2) m_W_goBy (n0, z0, none, mk c z.2) 9 [some (.ref 138), some (.ref (147 + a1)), some (.int x2), some (.ref (147 + a3)), some (.int x4)] [.int (gI S 138 11), .int x4] (mk c S) from ?_))
    refine J.cge (tgt := 41) d_W_goBy_9 rfl (fun q1 => ?_) (fun q1 => ?_)
    · have H := ite_t H q1
      obtain rfl := some_e H
      exact J.vret d_W_goBy_41 rfl rfl
    · have H := ite_f H q1
      refine J.run b_W_goBy_12_2 k_W_goBy_12_2 rfl (show J w (d + 2) m_W_goBy (n0, z0, none, mk c z.2) 15 [some (.ref 138), some (.ref (147 + a1)), some (.int x2), some (.ref (147 + a3)), some (.int x4)] [.int (1000000 : Int32), .int x2] (mk c S) from ?_)
      refine J.cge (tgt := 41) d_W_goBy_15 rfl (fun q2 => ?_) (fun q2 => ?_)
      · have H := ite_t H q2
        obtain rfl := some_e H
        exact J.vret d_W_goBy_41 rfl rfl
      · have H := ite_f H q2
        obtain ⟨g3, H⟩ := ck_e H
        refine J.run b_W_goBy_18_10 k_W_goBy_18_10 rfl (And.intro (okA_row (S := S) (b := 147) (cnt := 12) (n := 12) rfl ha1 g3) (And.intro (okA_row (S := S) (b := 147) (cnt := 12) (n := 12) rfl ha3 g3) (show J w (d + 2) m_W_goBy (n0, z0, none, mk c z.2) 31 [some (.ref 138), some (.ref (147 + a1)), some (.int x2), some (.ref (147 + a3)), some (.int x4)] [.int (x2 + (gI S (147 + a3) (x4).toNatClampNeg)), .int (gI S (147 + a1) (x4).toNatClampNeg), .int x4, .ref (147 + a1)] (mk c S) from ?_)))
        obtain ⟨r4, S5, h6, H⟩ := bd_e H
        refine J.callS (y := m_Ma_min) (av := [.int (gI S (147 + a1) (x4).toNatClampNeg), .int (x2 + (gI S (147 + a3) (x4).toNatClampNeg))]) (rest := [.int x4, .ref (147 + a1)]) l_W_52 d_W_goBy_31 (c_Ma_min w (d + 0) c  S (gI S (147 + a1) (x4).toNatClampNeg) (x2 + (gI S (147 + a3) (x4).toNatClampNeg)) h6) rfl (Nat.le_of_ble_eq_true rfl) ⟨Nat.le_refl _, Nat.le_refl _⟩ (show J w (d + 2) m_W_goBy (n0, z0, none, mk c z.2) 34 [some (.ref 138), some (.ref (147 + a1)), some (.int x2), some (.ref (147 + a3)), some (.int x4)] [.int r4, .int x4, .ref (147 + a1)] (mk c S5) from ?_)
        refine J.run b_W_goBy_34_2 k_W_goBy_34_2 rfl (And.intro (okB_row (S := S5) (b := 147) (cnt := 12) (n := 12) rfl ha1 g3) (show J w (d + 2) m_W_goBy (n0, z0, none, mk c z.2) 38 [some (.ref 138), some (.ref (147 + a1)), some (.int x2), some (.ref (147 + a3)), some (.int (x4 + (1 : Int32)))] [] (mk c (uI S5 (147 + a1) (x4).toNatClampNeg r4)) from ?_))
        refine J.goto (tgt := 3) d_W_goBy_38 rfl ?_
        refine J.mask [true, true, true, true, true] ?_
        exact ih (uI S5 (147 + a1) (x4).toNatClampNeg r4) (x4 + (1 : Int32)) H
theorem c_W_goBy_w147_w147 (w : Wd) (d : Nat) (c : cx)   (S : hs) (a1 : Nat) (x2 : Int32) (a3 : Nat) (ha1 : a1 < 12) (ha3 : a3 < 12) {z : Int32 × hs} (H : f_W_goBy_w147_w147 S a1 x2 a3 = some z) : Cl w (d + 2) m_W_goBy [.ref 138, .ref (147 + a1), .int x2, .ref (147 + a3)] (mk c S) (none) (mk c z.2) := by
  refine Cl.of (Nat.le_refl _) (Nat.le_refl _) (by decide +kernel) (Nat.le_of_ble_eq_true rfl) ?_
  unfold f_W_goBy_w147_w147 at H
  generalize hN (mk c S) = n0
  generalize hZ (mk c S) = z0
  show J w (d + 2) m_W_goBy (n0, z0, none, mk c z.2) 0 [some (.ref 138), some (.ref (147 + a1)), some (.int x2), some (.ref (147 + a3)), none] [] (mk c S)
  refine J.run b_W_goBy_0_2 k_W_goBy_0_2 rfl (show J w (d + 2) m_W_goBy (n0, z0, none, mk c z.2) 3 [some (.ref 138), some (.ref (147 + a1)), some (.int x2), some (.ref (147 + a3)), some (.int (0 : Int32))] [] (mk c S) from ?_)
  refine J.mask [true, true, true, true, true] ?_
  refine lo_W_goBy_w147_w147_3 w d c a1 x2 a3 ha1 ha3  1000 S (0 : Int32) H
def b_W_measureFreely_0_2 : List Ins := [(.iconst (0), 0, 0, 0), (.istore_n 1, 0, 0, 0)]
theorem k_W_measureFreely_0_2 : bok m_W_measureFreely 0 b_W_measureFreely_0_2 = true := by decide +kernel
def b_W_measureFreely_2_2 : List Ins := [(.iload_n 1, 0, 0, 0), (.bipush (12), 0, 0, 0)]
theorem k_W_measureFreely_2_2 : bok m_W_measureFreely 2 b_W_measureFreely_2_2 = true := by decide +kernel
def b_W_measureFreely_8_5 : List Ins := [(.aload_n 0, 0, 0, 0), (.getfield 36, 4, 7, 2), (.iload_n 1, 0, 0, 0), (.aaload, 0, 0, 0), (.ldc 93, 0, 1000000, 0)]
theorem k_W_measureFreely_8_5 : bok m_W_measureFreely 8 b_W_measureFreely_8_5 = true := by decide +kernel
def b_W_measureFreely_19_8 : List Ins := [(.aload_n 0, 0, 0, 0), (.getfield 36, 4, 7, 2), (.iload_n 1, 0, 0, 0), (.aaload, 0, 0, 0), (.iload_n 1, 0, 0, 0), (.iconst (0), 0, 0, 0), (.iastore, 0, 0, 0), (.iinc 1 (1), 0, 0, 0)]
theorem k_W_measureFreely_19_8 : bok m_W_measureFreely 19 b_W_measureFreely_19_8 = true := by decide +kernel
def b_W_measureFreely_34_2 : List Ins := [(.iconst (0), 0, 0, 0), (.istore_n 1, 0, 0, 0)]
theorem k_W_measureFreely_34_2 : bok m_W_measureFreely 34 b_W_measureFreely_34_2 = true := by decide +kernel
def b_W_measureFreely_36_3 : List Ins := [(.iload_n 1, 0, 0, 0), (.aload_n 0, 0, 0, 0), (.getfield 58, 4, 10, 0)]
theorem k_W_measureFreely_36_3 : bok m_W_measureFreely 36 b_W_measureFreely_36_3 = true := by decide +kernel
def b_W_measureFreely_44_3 : List Ins := [(.aload_n 0, 0, 0, 0), (.getfield 39, 4, 8, 1), (.iload_n 1, 0, 0, 0)]
theorem k_W_measureFreely_44_3 : bok m_W_measureFreely 44 b_W_measureFreely_44_3 = true := by decide +kernel
def b_W_measureFreely_92_1 : List Ins := [(.iinc 1 (1), 0, 0, 0)]
theorem k_W_measureFreely_92_1 : bok m_W_measureFreely 92 b_W_measureFreely_92_1 = true := by decide +kernel
def b_W_measureFreely_55_23 : List Ins := [(.aload_n 0, 0, 0, 0), (.getfield 36, 4, 7, 2), (.aload_n 0, 0, 0, 0), (.getfield 9, 4, 0, 2), (.iload_n 1, 0, 0, 0), (.iaload, 0, 0, 0), (.aaload, 0, 0, 0), (.astore_n 2, 0, 0, 0), (.aload_n 2, 0, 0, 0), (.aload_n 0, 0, 0, 0), (.getfield 15, 4, 1, 2), (.iload_n 1, 0, 0, 0), (.iaload, 0, 0, 0), (.aload_n 2, 0, 0, 0), (.aload_n 0, 0, 0, 0), (.getfield 15, 4, 1, 2), (.iload_n 1, 0, 0, 0), (.iaload, 0, 0, 0), (.iaload, 0, 0, 0), (.aload_n 0, 0, 0, 0), (.getfield 18, 4, 2, 2), (.iload_n 1, 0, 0, 0), (.iaload, 0, 0, 0)]
theorem k_W_measureFreely_55_23 : bok m_W_measureFreely 55 b_W_measureFreely_55_23 = true := by decide +kernel
def b_W_measureFreely_91_2 : List Ins := [(.iastore, 0, 0, 0), (.iinc 1 (1), 0, 0, 0)]
theorem k_W_measureFreely_91_2 : bok m_W_measureFreely 91 b_W_measureFreely_91_2 = true := by decide +kernel
def b_W_measureFreely_98_2 : List Ins := [(.iconst (0), 0, 0, 0), (.istore_n 1, 0, 0, 0)]
theorem k_W_measureFreely_98_2 : bok m_W_measureFreely 98 b_W_measureFreely_98_2 = true := by decide +kernel
def b_W_measureFreely_100_3 : List Ins := [(.iload_n 1, 0, 0, 0), (.aload_n 0, 0, 0, 0), (.getfield 64, 4, 11, 0)]
theorem k_W_measureFreely_100_3 : bok m_W_measureFreely 100 b_W_measureFreely_100_3 = true := by decide +kernel
def b_W_measureFreely_108_2 : List Ins := [(.iconst (0), 0, 0, 0), (.istore_n 2, 0, 0, 0)]
theorem k_W_measureFreely_108_2 : bok m_W_measureFreely 108 b_W_measureFreely_108_2 = true := by decide +kernel
def b_W_measureFreely_110_3 : List Ins := [(.iload_n 2, 0, 0, 0), (.aload_n 0, 0, 0, 0), (.getfield 64, 4, 11, 0)]
theorem k_W_measureFreely_110_3 : bok m_W_measureFreely 110 b_W_measureFreely_110_3 = true := by decide +kernel
def b_W_measureFreely_118_15 : List Ins := [(.aload_n 0, 0, 0, 0), (.aload_n 0, 0, 0, 0), (.getfield 36, 4, 7, 2), (.iload_n 2, 0, 0, 0), (.aaload, 0, 0, 0), (.aload_n 0, 0, 0, 0), (.getfield 36, 4, 7, 2), (.iload_n 2, 0, 0, 0), (.aaload, 0, 0, 0), (.iload_n 1, 0, 0, 0), (.iaload, 0, 0, 0), (.aload_n 0, 0, 0, 0), (.getfield 36, 4, 7, 2), (.iload_n 1, 0, 0, 0), (.aaload, 0, 0, 0)]
theorem k_W_measureFreely_118_15 : bok m_W_measureFreely 118 b_W_measureFreely_118_15 = true := by decide +kernel
def b_W_measureFreely_142_1 : List Ins := [(.iinc 2 (1), 0, 0, 0)]
theorem k_W_measureFreely_142_1 : bok m_W_measureFreely 142 b_W_measureFreely_142_1 = true := by decide +kernel
def b_W_measureFreely_148_1 : List Ins := [(.iinc 1 (1), 0, 0, 0)]
theorem k_W_measureFreely_148_1 : bok m_W_measureFreely 148 b_W_measureFreely_148_1 = true := by decide +kernel
theorem d_W_measureFreely_5 : decode m_W_measureFreely.2.1 5 = .ok (.if_icmp .ge (29), 3) := by decide +kernel
theorem d_W_measureFreely_16 : decode m_W_measureFreely.2.1 16 = .ok (.invokestatic 137, 3) := by decide +kernel
theorem d_W_measureFreely_31 : decode m_W_measureFreely.2.1 31 = .ok (.goto (-29), 3) := by decide +kernel
theorem d_W_measureFreely_41 : decode m_W_measureFreely.2.1 41 = .ok (.if_icmp .ge (57), 3) := by decide +kernel
theorem d_W_measureFreely_49 : decode m_W_measureFreely.2.1 49 = .ok (.invokestatic 98, 3) := by decide +kernel
theorem d_W_measureFreely_52 : decode m_W_measureFreely.2.1 52 = .ok (.ifCond .eq (40), 3) := by decide +kernel
theorem d_W_measureFreely_95 : decode m_W_measureFreely.2.1 95 = .ok (.goto (-59), 3) := by decide +kernel
theorem d_W_measureFreely_88 : decode m_W_measureFreely.2.1 88 = .ok (.invokestatic 52, 3) := by decide +kernel
theorem d_W_measureFreely_105 : decode m_W_measureFreely.2.1 105 = .ok (.if_icmp .ge (49), 3) := by decide +kernel
theorem d_W_measureFreely_154 : decode m_W_measureFreely.2.1 154 = .ok (.return_, 1) := by decide +kernel
theorem d_W_measureFreely_115 : decode m_W_measureFreely.2.1 115 = .ok (.if_icmp .ge (33), 3) := by decide +kernel
theorem d_W_measureFreely_139 : decode m_W_measureFreely.2.1 139 = .ok (.invokevirtual 143, 3) := by decide +kernel
theorem d_W_measureFreely_145 : decode m_W_measureFreely.2.1 145 = .ok (.goto (-35), 3) := by decide +kernel
theorem d_W_measureFreely_151 : decode m_W_measureFreely.2.1 151 = .ok (.goto (-51), 3) := by decide +kernel
def lp_W_measureFreely_2   (K0 : hs → Int32 → Option (Int32 × hs)) : Nat → hs → Int32 → Option (Int32 × hs)
  | 0, _, _ => none
  | n + 1, S, x1 => (if (12 : Int32) ≤ x1 then K0 S x1 else ck (inb x1 12) (bd (f_Ar_fill_aIIV_w147  S (x1).toNatClampNeg (1000000 : Int32)) fun r3 S4 => lp_W_measureFreely_2 K0 n (uI S4 (147 + (x1).toNatClampNeg) (x1).toNatClampNeg (0 : Int32)) (x1 + (1 : Int32))))
def lp_W_measureFreely_36   (K0 : hs → Int32 → Option (Int32 × hs)) : Nat → hs → Int32 → Option (Int32 × hs)
  | 0, _, _ => none
  | n + 1, S, x1 => (if (gI S 138 10) ≤ x1 then K0 S x1 else bd (f_X_isIn  S (gJ S 138 8) x1) fun r9 S10 => (if r9 = 0 then lp_W_measureFreely_36 K0 n S10 (x1 + (1 : Int32)) else ck (inb x1 40) (ck (inb (gI S10 139 (x1).toNatClampNeg) 12) (ck (inb (gI S10 140 (x1).toNatClampNeg) 12) (bd (f_Ma_min  S10 (gI S10 (147 + ((gI S10 139 (x1).toNatClampNeg)).toNatClampNeg) ((gI S10 140 (x1).toNatClampNeg)).toNatClampNeg) (gI S10 141 (x1).toNatClampNeg)) fun r16 S17 => lp_W_measureFreely_36 K0 n (uI S17 (147 + ((gI S10 139 (x1).toNatClampNeg)).toNatClampNeg) ((gI S10 140 (x1).toNatClampNeg)).toNatClampNeg r16) (x1 + (1 : Int32)))))))
def lp_W_measureFreely_110 (x1 : Int32)  (K0 : hs → Int32 → Option (Int32 × hs)) : Nat → hs → Int32 → Option (Int32 × hs)
  | 0, _, _ => none
  | n + 1, S, x2 => (if (gI S 138 11) ≤ x2 then K0 S x2 else ck (inb x2 12) (ck (inb x1 12) (bd (f_W_goBy_w147_w147  S (x2).toNatClampNeg (gI S (147 + (x2).toNatClampNeg) (x1).toNatClampNeg) (x1).toNatClampNeg) fun r25 S26 => lp_W_measureFreely_110 x1 K0 n S26 (x2 + (1 : Int32)))))
def lp_W_measureFreely_100    : Nat → hs → Int32 → Option (Int32 × hs)
  | 0, _, _ => none
  | n + 1, S, x1 => (if (gI S 138 11) ≤ x1 then some ((0 : Int32), S) else lp_W_measureFreely_110 x1 (fun (S28 : hs) (y29 : Int32) => lp_W_measureFreely_100  n S28 (x1 + (1 : Int32))) 1000 S (0 : Int32))
def f_W_measureFreely  (S : hs)  : Option (Int32 × hs) := lp_W_measureFreely_2 (fun (S6 : hs) (y7 : Int32) => lp_W_measureFreely_36 (fun (S19 : hs) (y20 : Int32) => lp_W_measureFreely_100  1000 S19 (0 : Int32)) 1000 S6 (0 : Int32)) 1000 S (0 : Int32)
theorem lo_W_measureFreely_2 (w : Wd) (d : Nat) (c : cx) {n0 z0 : Nat} {z : Int32 × hs}  {K0 : hs → Int32 → Option (Int32 × hs)}    (hK0 : ∀ (S : hs) (x1 : Int32), K0 S x1 = some z → J w (d + 3) m_W_measureFreely (n0, z0, none, mk c z.2) 34 [some (.ref 138), none, none] [] (mk c S)) :
    ∀ (n : Nat) (S : hs) (x1 : Int32), lp_W_measureFreely_2 K0 n S x1 = some z → J w (d + 3) m_W_measureFreely (n0, z0, none, mk c z.2) 2 [some (.ref 138), some (.int x1), none] [] (mk c S) := by
  intro n
  induction n with
  | zero => intro S x1 H; cases H
  | succ n ih =>
    intro S x1 H
    rw [lp_W_measureFreely_2] at H
    refine J.run b_W_measureFreely_2_2 k_W_measureFreely_2_2 rfl (show J w (d + 3) m_W_measureFreely (n0, z0, none, mk c z.2) 5 [some (.ref 138), some (.int x1), none] [.int (12 : Int32), .int x1] (mk c S) from ?_)
    refine J.cge (tgt := 34) d_W_measureFreely_5 rfl (fun q1 => ?_) (fun q1 => ?_)
    · have H := ite_t H q1
      refine J.mask [true, false, false] ?_
      exact hK0 S x1 H
    · have H := ite_f H q1
      obtain ⟨g2, H⟩ := ck_e H
      refine J.run b_W_measureFreely_8_5 k_W_measureFreely_8_5 rfl (And.intro (okO_st (S := S) rfl) (And.intro (okQ_st (S := S) (k := 23) (n := 12) rfl rfl g2) (show J w (d + 3) m_W_measureFreely (n0, z0, none, mk c z.2) 16 [some (.ref 138), some (.int x1), none] [.int (1000000 : Int32), .ref (147 + (x1).toNatClampNeg)] (mk c S) from ?_)))
      obtain ⟨r3, S4, h5, H⟩ := bd_e H
      refine J.callS (y := m_Ar_fill_aIIV) (av := [.ref (147 + (x1).toNatClampNeg), .int (1000000 : Int32)]) (rest := []) l_W_137 d_W_measureFreely_16 (c_Ar_fill_aIIV_w147 w (d + 1) c  S (x1).toNatClampNeg (1000000 : Int32) (inb_lt g2) h5) rfl (Nat.le_of_ble_eq_true rfl) ⟨Nat.le_refl _, Nat.le_refl _⟩ (show J w (d + 3) m_W_measureFreely (n0, z0, none, mk c z.2) 19 [some (.ref 138), some (.int x1), none] [] (mk c S4) from ?_)
      refine J.run b_W_measureFreely_19_8 k_W_measureFreely_19_8 rfl (And.intro (okO_st (S := S4) rfl) (And.intro (okQ_st (S := S4) (k := 23) (n := 12) rfl rfl g2) (And.intro (okB_row (S := S4) (b := 147) (cnt := 12) (n := 12) rfl (inb_lt g2) g2) (show J w (d + 3) m_W_measureFreely (n0, z0, none, mk c z.2) 31 [some (.ref 138), some (.int (x1 + (1 : Int32))), none] [] (mk c (uI S4 (147 + (x1).toNatClampNeg) (x1).toNatClampNeg (0 : Int32))) from ?_))))
      refine J.goto (tgt := 2) d_W_measureFreely_31 rfl ?_
      refine J.mask [true, true, false] ?_
      exact ih (uI S4 (147 + (x1).toNatClampNeg) (x1).toNatClampNeg (0 : Int32)) (x1 + (1 : Int32)) H
theorem lo_W_measureFreely_36 (w : Wd) (d : Nat) (c : cx) {n0 z0 : Nat} {z : Int32 × hs}  {K0 : hs → Int32 → Option (Int32 × hs)}    (hK0 : ∀ (S : hs) (x1 : Int32), K0 S x1 = some z → J w (d + 3) m_W_measureFreely (n0, z0, none, mk c z.2) 98 [some (.ref 138), none, none] [] (mk c S)) :
    ∀ (n : Nat) (S : hs) (x1 : Int32), lp_W_measureFreely_36 K0 n S x1 = some z → J w (d + 3) m_W_measureFreely (n0, z0, none, mk c z.2) 36 [some (.ref 138), some (.int x1), none] [] (mk c S) := by
  intro n
  induction n with
  | zero => intro S x1 H; cases H
  | succ n ih =>
    intro S x1 H
    rw [lp_W_measureFreely_36] at H
    refine J.run b_W_measureFreely_36_3 k_W_measureFreely_36_3 rfl (And.intro (okO_st (S := S) rfl) (show J w (d + 3) m_W_measureFreely (n0, z0, none, mk c z.2) 41 [some (.ref 138), some (.int x1), none] [.int (gI S 138 10), .int x1] (mk c S) from ?_))
    refine J.cge (tgt := 98) d_W_measureFreely_41 rfl (fun q8 => ?_) (fun q8 => ?_)
    · have H := ite_t H q8
      refine J.mask [true, false, false] ?_
      exact hK0 S x1 H
    · have H := ite_f H q8
      refine J.run b_W_measureFreely_44_3 k_W_measureFreely_44_3 rfl (And.intro (okO_st (S := S) rfl) (show J w (d + 3) m_W_measureFreely (n0, z0, none, mk c z.2) 49 [some (.ref 138), some (.int x1), none] [.int x1, .long (gJ S 138 8)] (mk c S) from ?_))
      obtain ⟨r9, S10, h11, H⟩ := bd_e H
      refine J.callSn (y := m_X_isIn) (av := [.long (gJ S 138 8), .int x1]) (rest := []) l_W_98 d_W_measureFreely_49 (c_X_isIn w (d + 1) c  S (gJ S 138 8) x1 h11) rfl (Nat.le_of_ble_eq_true rfl) ⟨Nat.le_refl _, Nat.le_refl _⟩ (show J w (d + 3) m_W_measureFreely (n0, z0, none, mk c z.2) 52 [some (.ref 138), some (.int x1), none] [.int r9] (mk c S10) from ?_)
      refine J.zeq (tgt := 92) d_W_measureFreely_52 rfl (fun q12 => ?_) (fun q12 => ?_)
      · have H := ite_t H q12
        refine J.run b_W_measureFreely_92_1 k_W_measureFreely_92_1 rfl (show J w (d + 3) m_W_measureFreely (n0, z0, none, mk c z.2) 95 [some (.ref 138), some (.int (x1 + (1 : Int32))), none] [] (mk c S10) from ?_)
        refine J.goto (tgt := 36) d_W_measureFreely_95 rfl ?_
        refine J.mask [true, true, false] ?_
        exact ih S10 (x1 + (1 : Int32)) H
      · have H := ite_f H q12
        obtain ⟨g13, H⟩ := ck_e H
        obtain ⟨g14, H⟩ := ck_e H
        obtain ⟨g15, H⟩ := ck_e H
        refine J.run b_W_measureFreely_55_23 k_W_measureFreely_55_23 rfl (And.intro (okO_st (S := S10) rfl) (And.intro (okO_st (S := S10) rfl) (And.intro (okA_st (S := S10) (n := 40) rfl g13) (And.intro (okQ_st (S := S10) (k := 23) (n := 12) rfl rfl g14) (And.intro (okO_st (S := S10) rfl) (And.intro (okA_st (S := S10) (n := 40) rfl g13) (And.intro (okO_st (S := S10) rfl) (And.intro (okA_st (S := S10) (n := 40) rfl g13) (And.intro (okA_row (S := S10) (b := 147) (cnt := 12) (n := 12) rfl (inb_lt g14) g15) (And.intro (okO_st (S := S10) rfl) (And.intro (okA_st (S := S10) (n := 40) rfl g13) (show J w (d + 3) m_W_measureFreely (n0, z0, none, mk c z.2) 88 [some (.ref 138), some (.int x1), some (.ref (147 + ((gI S10 139 (x1).toNatClampNeg)).toNatClampNeg))] [.int (gI S10 141 (x1).toNatClampNeg), .int (gI S10 (147 + ((gI S10 139 (x1).toNatClampNeg)).toNatClampNeg) ((gI S10 140 (x1).toNatClampNeg)).toNatClampNeg), .int (gI S10 140 (x1).toNatClampNeg), .ref (147 + ((gI S10 139 (x1).toNatClampNeg)).toNatClampNeg)] (mk c S10) from ?_))))))))))))
        obtain ⟨r16, S17, h18, H⟩ := bd_e H
        refine J.callS (y := m_Ma_min) (av := [.int (gI S10 (147 + ((gI S10 139 (x1).toNatClampNeg)).toNatClampNeg) ((gI S10 140 (x1).toNatClampNeg)).toNatClampNeg), .int (gI S10 141 (x1).toNatClampNeg)]) (rest := [.int (gI S10 140 (x1).toNatClampNeg), .ref (147 + ((gI S10 139 (x1).toNatClampNeg)).toNatClampNeg)]) l_W_52 d_W_measureFreely_88 (c_Ma_min w (d + 1) c  S10 (gI S10 (147 + ((gI S10 139 (x1).toNatClampNeg)).toNatClampNeg) ((gI S10 140 (x1).toNatClampNeg)).toNatClampNeg) (gI S10 141 (x1).toNatClampNeg) h18) rfl (Nat.le_of_ble_eq_true rfl) ⟨Nat.le_refl _, Nat.le_refl _⟩ (show J w (d + 3) m_W_measureFreely (n0, z0, none, mk c z.2) 91 [some (.ref 138), some (.int x1), some (.ref (147 + ((gI S10 139 (x1).toNatClampNeg)).toNatClampNeg))] [.int r16, .int (gI S10 140 (x1).toNatClampNeg), .ref (147 + ((gI S10 139 (x1).toNatClampNeg)).toNatClampNeg)] (mk c S17) from ?_)
        refine J.run b_W_measureFreely_91_2 k_W_measureFreely_91_2 rfl (And.intro (okB_row (S := S17) (b := 147) (cnt := 12) (n := 12) rfl (inb_lt g14) g15) (show J w (d + 3) m_W_measureFreely (n0, z0, none, mk c z.2) 95 [some (.ref 138), some (.int (x1 + (1 : Int32))), some (.ref (147 + ((gI S10 139 (x1).toNatClampNeg)).toNatClampNeg))] [] (mk c (uI S17 (147 + ((gI S10 139 (x1).toNatClampNeg)).toNatClampNeg) ((gI S10 140 (x1).toNatClampNeg)).toNatClampNeg r16)) from ?_))
        refine J.goto (tgt := 36) d_W_measureFreely_95 rfl ?_
        refine J.mask [true, true, false] ?_
        exact ih (uI S17 (147 + ((gI S10 139 (x1).toNatClampNeg)).toNatClampNeg) ((gI S10 140 (x1).toNatClampNeg)).toNatClampNeg r16) (x1 + (1 : Int32)) H
theorem lo_W_measureFreely_110 (w : Wd) (d : Nat) (c : cx) {n0 z0 : Nat} {z : Int32 × hs}  {K0 : hs → Int32 → Option (Int32 × hs)} (x1 : Int32)   (hK0 : ∀ (S : hs) (x2 : Int32), K0 S x2 = some z → J w (d + 3) m_W_measureFreely (n0, z0, none, mk c z.2) 148 [some (.ref 138), some (.int x1), none] [] (mk c S)) :
    ∀ (n : Nat) (S : hs) (x2 : Int32), lp_W_measureFreely_110 x1 K0 n S x2 = some z → J w (d + 3) m_W_measureFreely (n0, z0, none, mk c z.2) 110 [some (.ref 138), some (.int x1), some (.int x2)] [] (mk c S) := by
  intro n
  induction n with
  | zero => intro S x2 H; cases H
  | succ n ih =>
    intro S x2 H
    rw [lp_W_measureFreely_110] at H
    refine J.run b_W_measureFreely_110_3 k_W_measureFreely_110_3 rfl (And.intro (okO_st (S := S) rfl) (show J w (d + 3) m_W_measureFreely (n0, z0, none, mk c z.2) 115 [some (.ref 138), some (.int x1), some (.int x2)] [.int (gI S 138 11), .int x2] (mk c S) from ?_))
    refine J.cge (tgt := 148) d_W_measureFreely_115 rfl (fun q22 => ?_) (fun q22 => ?_)
    · have H := ite_t H q22
      refine J.mask [true, true, false] ?_
      exact hK0 S x2 H
    · have H := ite_f H q22
      obtain ⟨g23, H⟩ := ck_e H
      obtain ⟨g24, H⟩ := ck_e H
      refine J.run b_W_measureFreely_118_15 k_W_measureFreely_118_15 rfl (And.intro (okO_st (S := S) rfl) (And.intro (okQ_st (S := S) (k := 23) (n := 12) rfl rfl g23) (And.intro (okO_st (S := S) rfl) (And.intro (okQ_st (S := S) (k := 23) (n := 12) rfl rfl g23) (And.intro (okA_row (S := S) (b := 147) (cnt := 12) (n := 12) rfl (inb_lt g23) g24) (And.intro (okO_st (S := S) rfl) (And.intro (okQ_st (S := S) (k := 23) (n := 12) rfl rfl g24) (show J w (d + 3) m_W_measureFreely (n0, z0, none, mk c z.2) 139 [some (.ref 138), some (.int x1), some (.int x2)] [.ref (147 + (x1).toNatClampNeg), .int (gI S (147 + (x2).toNatClampNeg) (x1).toNatClampNeg), .ref (147 + (x2).toNatClampNeg), .ref 138] (mk c S) from ?_))))))))
      obtain ⟨r25, S26, h27, H⟩ := bd_e H
      refine J.callV (y := m_W_goBy) (av := [.ref (147 + (x2).toNatClampNeg), .int (gI S (147 + (x2).toNatClampNeg) (x1).toNatClampNeg), .ref (147 + (x1).toNatClampNeg)]) (rest := []) (q := 138) l_W_143 d_W_measureFreely_139 (isC_st rfl rfl) (c_W_goBy_w147_w147 w (d + 0) c  S (x2).toNatClampNeg (gI S (147 + (x2).toNatClampNeg) (x1).toNatClampNeg) (x1).toNatClampNeg (inb_lt g23) (inb_lt g24) h27) rfl (Nat.le_of_ble_eq_true rfl) ⟨Nat.le_refl _, Nat.le_refl _⟩ (show J w (d + 3) m_W_measureFreely (n0, z0, none, mk c z.2) 142 [some (.ref 138), some (.int x1), some (.int x2)] [] (mk c S26) from ?_)
      refine J.run b_W_measureFreely_142_1 k_W_measureFreely_142_1 rfl (show J w (d + 3) m_W_measureFreely (n0, z0, none, mk c z.2) 145 [some (.ref 138), some (.int x1), some (.int (x2 + (1 : Int32)))] [] (mk c S26) from ?_)
      refine J.goto (tgt := 110) d_W_measureFreely_145 rfl ?_
      refine J.mask [true, true, true] ?_
      exact ih S26 (x2 + (1 : Int32)) H
theorem lo_W_measureFreely_100 (w : Wd) (d : Nat) (c : cx) {n0 z0 : Nat} {z : Int32 × hs}       :
    ∀ (n : Nat) (S : hs) (x1 : Int32), lp_W_measureFreely_100  n S x1 = some z → J w (d + 3) m_W_measureFreely (n0, z0, none, mk c z.2) 100 [some (.ref 138), some (.int x1), none] [] (mk c S) := by
  intro n
  induction n with
  | zero => intro S x1 H; cases H
  | succ n ih =>
    intro S x1 H
    rw [lp_W_measureFreely_100] at H
    refine J.run b_W_measureFreely_100_3 k_W_measureFreely_100_3 rfl (And.intro (okO_st (S := S) rfl) (show J w (d + 3) m_W_measureFreely (n0, z0, none, mk c z.2) 105 [some (.ref 138), some (.int x1), none] [.int (gI S 138 11), .int x1] (mk c S) from ?_))
    refine J.cge (tgt := 154) d_W_measureFreely_105 rfl (fun q21 => ?_) (fun q21 => ?_)
    · have H := ite_t H q21
      obtain rfl := some_e H
      exact J.vret d_W_measureFreely_154 rfl rfl
    · have H := ite_f H q21
      refine J.run b_W_measureFreely_108_2 k_W_measureFreely_108_2 rfl (show J w (d + 3) m_W_measureFreely (n0, z0, none, mk c z.2) 110 [some (.ref 138), some (.int x1), some (.int (0 : Int32))] [] (mk c S) from ?_)
      refine J.mask [true, true, true] ?_
      refine lo_W_measureFreely_110 w d c x1 ?_ 1000 S (0 : Int32) H
      · intro S28 y29 H
        try dsimp only at H
        refine J.run b_W_measureFreely_148_1 k_W_measureFreely_148_1 rfl (show J w (d + 3) m_W_measureFreely (n0, z0, none, mk c z.2) 151 [some (.ref 138), some (.int (x1 + (1 : Int32))), none] [] (mk c S28) from ?_)
        refine J.goto (tgt := 100) d_W_measureFreely_151 rfl ?_
        refine J.mask [true, true, false] ?_
        exact ih S28 (x1 + (1 : Int32)) H
theorem c_W_measureFreely (w : Wd) (d : Nat) (c : cx)   (S : hs)   {z : Int32 × hs} (H : f_W_measureFreely S = some z) : Cl w (d + 3) m_W_measureFreely [.ref 138] (mk c S) (none) (mk c z.2) := by
  refine Cl.of (Nat.le_refl _) (Nat.le_refl _) (by decide +kernel) (Nat.le_of_ble_eq_true rfl) ?_
  unfold f_W_measureFreely at H
  generalize hN (mk c S) = n0
  generalize hZ (mk c S) = z0
  show J w (d + 3) m_W_measureFreely (n0, z0, none, mk c z.2) 0 [some (.ref 138), none, none] [] (mk c S)
  refine J.run b_W_measureFreely_0_2 k_W_measureFreely_0_2 rfl (show J w (d + 3) m_W_measureFreely (n0, z0, none, mk c z.2) 2 [some (.ref 138), some (.int (0 : Int32)), none] [] (mk c S) from ?_)
  refine J.mask [true, true, false] ?_
  refine lo_W_measureFreely_2 w d c  ?_ 1000 S (0 : Int32) H
  · intro S6 y7 H
    try dsimp only at H
    refine J.run b_W_measureFreely_34_2 k_W_measureFreely_34_2 rfl (show J w (d + 3) m_W_measureFreely (n0, z0, none, mk c z.2) 36 [some (.ref 138), some (.int (0 : Int32)), none] [] (mk c S6) from ?_)
    refine J.mask [true, true, false] ?_
    refine lo_W_measureFreely_36 w d c  ?_ 1000 S6 (0 : Int32) H
    · intro S19 y20 H
      try dsimp only at H
      refine J.run b_W_measureFreely_98_2 k_W_measureFreely_98_2 rfl (show J w (d + 3) m_W_measureFreely (n0, z0, none, mk c z.2) 100 [some (.ref 138), some (.int (0 : Int32)), none] [] (mk c S19) from ?_)
      refine J.mask [true, true, false] ?_
      refine lo_W_measureFreely_100 w d c   1000 S19 (0 : Int32) H
def b_It_numberOfTrailingZeros_0_9 : List Ins := [(.iload_n 0, 0, 0, 0), (.iconst (-1), 0, 0, 0), (.ixor, 0, 0, 0), (.iload_n 0, 0, 0, 0), (.iconst (1), 0, 0, 0), (.isub, 0, 0, 0), (.iand, 0, 0, 0), (.istore_n 0, 0, 0, 0), (.iload_n 0, 0, 0, 0)]
theorem k_It_numberOfTrailingZeros_0_9 : bok m_It_numberOfTrailingZeros 0 b_It_numberOfTrailingZeros_0_9 = true := by decide +kernel
def b_It_numberOfTrailingZeros_17_4 : List Ins := [(.iconst (1), 0, 0, 0), (.istore_n 1, 0, 0, 0), (.iload_n 0, 0, 0, 0), (.ldc_w 264, 0, 65536, 0)]
theorem k_It_numberOfTrailingZeros_17_4 : bok m_It_numberOfTrailingZeros 17 b_It_numberOfTrailingZeros_17_4 = true := by decide +kernel
def b_It_numberOfTrailingZeros_34_2 : List Ins := [(.iload_n 0, 0, 0, 0), (.sipush (256), 0, 0, 0)]
theorem k_It_numberOfTrailingZeros_34_2 : bok m_It_numberOfTrailingZeros 34 b_It_numberOfTrailingZeros_34_2 = true := by decide +kernel
def b_It_numberOfTrailingZeros_49_2 : List Ins := [(.iload_n 0, 0, 0, 0), (.bipush (16), 0, 0, 0)]
theorem k_It_numberOfTrailingZeros_49_2 : bok m_It_numberOfTrailingZeros 49 b_It_numberOfTrailingZeros_49_2 = true := by decide +kernel
def b_It_numberOfTrailingZeros_62_2 : List Ins := [(.iload_n 0, 0, 0, 0), (.iconst (4), 0, 0, 0)]
theorem k_It_numberOfTrailingZeros_62_2 : bok m_It_numberOfTrailingZeros 62 b_It_numberOfTrailingZeros_62_2 = true := by decide +kernel
def b_It_numberOfTrailingZeros_74_5 : List Ins := [(.iload_n 1, 0, 0, 0), (.iload_n 0, 0, 0, 0), (.iconst (1), 0, 0, 0), (.iushr, 0, 0, 0), (.iadd, 0, 0, 0)]
theorem k_It_numberOfTrailingZeros_74_5 : bok m_It_numberOfTrailingZeros 74 b_It_numberOfTrailingZeros_74_5 = true := by decide +kernel
def b_It_numberOfTrailingZeros_67_10 : List Ins := [(.iinc 1 (2), 0, 0, 0), (.iload_n 0, 0, 0, 0), (.iconst (2), 0, 0, 0), (.iushr, 0, 0, 0), (.istore_n 0, 0, 0, 0), (.iload_n 1, 0, 0, 0), (.iload_n 0, 0, 0, 0), (.iconst (1), 0, 0, 0), (.iushr, 0, 0, 0), (.iadd, 0, 0, 0)]
theorem k_It_numberOfTrailingZeros_67_10 : bok m_It_numberOfTrailingZeros 67 b_It_numberOfTrailingZeros_67_10 = true := by decide +kernel
def b_It_numberOfTrailingZeros_55_7 : List Ins := [(.iinc 1 (4), 0, 0, 0), (.iload_n 0, 0, 0, 0), (.iconst (4), 0, 0, 0), (.iushr, 0, 0, 0), (.istore_n 0, 0, 0, 0), (.iload_n 0, 0, 0, 0), (.iconst (4), 0, 0, 0)]
theorem k_It_numberOfTrailingZeros_55_7 : bok m_It_numberOfTrailingZeros 55 b_It_numberOfTrailingZeros_55_7 = true := by decide +kernel
def b_It_numberOfTrailingZeros_41_7 : List Ins := [(.iinc 1 (8), 0, 0, 0), (.iload_n 0, 0, 0, 0), (.bipush (8), 0, 0, 0), (.iushr, 0, 0, 0), (.istore_n 0, 0, 0, 0), (.iload_n 0, 0, 0, 0), (.bipush (16), 0, 0, 0)]
theorem k_It_numberOfTrailingZeros_41_7 : bok m_It_numberOfTrailingZeros 41 b_It_numberOfTrailingZeros_41_7 = true := by decide +kernel
def b_It_numberOfTrailingZeros_26_7 : List Ins := [(.iinc 1 (16), 0, 0, 0), (.iload_n 0, 0, 0, 0), (.bipush (16), 0, 0, 0), (.iushr, 0, 0, 0), (.istore_n 0, 0, 0, 0), (.iload_n 0, 0, 0, 0), (.sipush (256), 0, 0, 0)]
theorem k_It_numberOfTrailingZeros_26_7 : bok m_It_numberOfTrailingZeros 26 b_It_numberOfTrailingZeros_26_7 = true := by decide +kernel
def b_It_numberOfTrailingZeros_12_3 : List Ins := [(.iload_n 0, 0, 0, 0), (.bipush (32), 0, 0, 0), (.iand, 0, 0, 0)]
theorem k_It_numberOfTrailingZeros_12_3 : bok m_It_numberOfTrailingZeros 12 b_It_numberOfTrailingZeros_12_3 = true := by decide +kernel
theorem d_It_numberOfTrailingZeros_9 : decode m_It_numberOfTrailingZeros.2.1 9 = .ok (.ifCond .gt (8), 3) := by decide +kernel
theorem d_It_numberOfTrailingZeros_23 : decode m_It_numberOfTrailingZeros.2.1 23 = .ok (.if_icmp .le (11), 3) := by decide +kernel
theorem d_It_numberOfTrailingZeros_38 : decode m_It_numberOfTrailingZeros.2.1 38 = .ok (.if_icmp .le (11), 3) := by decide +kernel
theorem d_It_numberOfTrailingZeros_52 : decode m_It_numberOfTrailingZeros.2.1 52 = .ok (.if_icmp .le (10), 3) := by decide +kernel
theorem d_It_numberOfTrailingZeros_64 : decode m_It_numberOfTrailingZeros.2.1 64 = .ok (.if_icmp .le (10), 3) := by decide +kernel
theorem d_It_numberOfTrailingZeros_79 : decode m_It_numberOfTrailingZeros.2.1 79 = .ok (.ireturn, 1) := by decide +kernel
theorem d_It_numberOfTrailingZeros_16 : decode m_It_numberOfTrailingZeros.2.1 16 = .ok (.ireturn, 1) := by decide +kernel
def f_It_numberOfTrailingZeros  (S : hs) (x0 : Int32) : Option (Int32 × hs) := (if 0 < ((x0 ^^^ (-1 : Int32)) &&& (x0 - (1 : Int32))) then (if ((x0 ^^^ (-1 : Int32)) &&& (x0 - (1 : Int32))) ≤ (65536 : Int32) then (if ((x0 ^^^ (-1 : Int32)) &&& (x0 - (1 : Int32))) ≤ (256 : Int32) then (if ((x0 ^^^ (-1 : Int32)) &&& (x0 - (1 : Int32))) ≤ (16 : Int32) then (if ((x0 ^^^ (-1 : Int32)) &&& (x0 - (1 : Int32))) ≤ (4 : Int32) then some (((1 : Int32) + (ushr ((x0 ^^^ (-1 : Int32)) &&& (x0 - (1 : Int32))) (1 : Int32))), S) else some ((((1 : Int32) + (2 : Int32)) + (ushr (ushr ((x0 ^^^ (-1 : Int32)) &&& (x0 - (1 : Int32))) (2 : Int32)) (1 : Int32))), S)) else (if (ushr ((x0 ^^^ (-1 : Int32)) &&& (x0 - (1 : Int32))) (4 : Int32)) ≤ (4 : Int32) then some ((((1 : Int32) + (4 : Int32)) + (ushr (ushr ((x0 ^^^ (-1 : Int32)) &&& (x0 - (1 : Int32))) (4 : Int32)) (1 : Int32))), S) else some (((((1 : Int32) + (4 : Int32)) + (2 : Int32)) + (ushr (ushr (ushr ((x0 ^^^ (-1 : Int32)) &&& (x0 - (1 : Int32))) (4 : Int32)) (2 : Int32)) (1 : Int32))), S))) else (if (ushr ((x0 ^^^ (-1 : Int32)) &&& (x0 - (1 : Int32))) (8 : Int32)) ≤ (16 : Int32) then (if (ushr ((x0 ^^^ (-1 : Int32)) &&& (x0 - (1 : Int32))) (8 : Int32)) ≤ (4 : Int32) then some ((((1 : Int32) + (8 : Int32)) + (ushr (ushr ((x0 ^^^ (-1 : Int32)) &&& (x0 - (1 : Int32))) (8 : Int32)) (1 : Int32))), S) else some (((((1 : Int32) + (8 : Int32)) + (2 : Int32)) + (ushr (ushr (ushr ((x0 ^^^ (-1 : Int32)) &&& (x0 - (1 : Int32))) (8 : Int32)) (2 : Int32)) (1 : Int32))), S)) else (if (ushr (ushr ((x0 ^^^ (-1 : Int32)) &&& (x0 - (1 : Int32))) (8 : Int32)) (4 : Int32)) ≤ (4 : Int32) then some (((((1 : Int32) + (8 : Int32)) + (4 : Int32)) + (ushr (ushr (ushr ((x0 ^^^ (-1 : Int32)) &&& (x0 - (1 : Int32))) (8 : Int32)) (4 : Int32)) (1 : Int32))), S) else some ((((((1 : Int32) + (8 : Int32)) + (4 : Int32)) + (2 : Int32)) + (ushr (ushr (ushr (ushr ((x0 ^^^ (-1 : Int32)) &&& (x0 - (1 : Int32))) (8 : Int32)) (4 : Int32)) (2 : Int32)) (1 : Int32))), S)))) else (if (ushr ((x0 ^^^ (-1 : Int32)) &&& (x0 - (1 : Int32))) (16 : Int32)) ≤ (256 : Int32) then (if (ushr ((x0 ^^^ (-1 : Int32)) &&& (x0 - (1 : Int32))) (16 : Int32)) ≤ (16 : Int32) then (if (ushr ((x0 ^^^ (-1 : Int32)) &&& (x0 - (1 : Int32))) (16 : Int32)) ≤ (4 : Int32) then some ((((1 : Int32) + (16 : Int32)) + (ushr (ushr ((x0 ^^^ (-1 : Int32)) &&& (x0 - (1 : Int32))) (16 : Int32)) (1 : Int32))), S) else some (((((1 : Int32) + (16 : Int32)) + (2 : Int32)) + (ushr (ushr (ushr ((x0 ^^^ (-1 : Int32)) &&& (x0 - (1 : Int32))) (16 : Int32)) (2 : Int32)) (1 : Int32))), S)) else (if (ushr (ushr ((x0 ^^^ (-1 : Int32)) &&& (x0 - (1 : Int32))) (16 : Int32)) (4 : Int32)) ≤ (4 : Int32) then some (((((1 : Int32) + (16 : Int32)) + (4 : Int32)) + (ushr (ushr (ushr ((x0 ^^^ (-1 : Int32)) &&& (x0 - (1 : Int32))) (16 : Int32)) (4 : Int32)) (1 : Int32))), S) else some ((((((1 : Int32) + (16 : Int32)) + (4 : Int32)) + (2 : Int32)) + (ushr (ushr (ushr (ushr ((x0 ^^^ (-1 : Int32)) &&& (x0 - (1 : Int32))) (16 : Int32)) (4 : Int32)) (2 : Int32)) (1 : Int32))), S))) else (if (ushr (ushr ((x0 ^^^ (-1 : Int32)) &&& (x0 - (1 : Int32))) (16 : Int32)) (8 : Int32)) ≤ (16 : Int32) then (if (ushr (ushr ((x0 ^^^ (-1 : Int32)) &&& (x0 - (1 : Int32))) (16 : Int32)) (8 : Int32)) ≤ (4 : Int32) then some (((((1 : Int32) + (16 : Int32)) + (8 : Int32)) + (ushr (ushr (ushr ((x0 ^^^ (-1 : Int32)) &&& (x0 - (1 : Int32))) (16 : Int32)) (8 : Int32)) (1 : Int32))), S) else some ((((((1 : Int32) + (16 : Int32)) + (8 : Int32)) + (2 : Int32)) + (ushr (ushr (ushr (ushr ((x0 ^^^ (-1 : Int32)) &&& (x0 - (1 : Int32))) (16 : Int32)) (8 : Int32)) (2 : Int32)) (1 : Int32))), S)) else (if (ushr (ushr (ushr ((x0 ^^^ (-1 : Int32)) &&& (x0 - (1 : Int32))) (16 : Int32)) (8 : Int32)) (4 : Int32)) ≤ (4 : Int32) then some ((((((1 : Int32) + (16 : Int32)) + (8 : Int32)) + (4 : Int32)) + (ushr (ushr (ushr (ushr ((x0 ^^^ (-1 : Int32)) &&& (x0 - (1 : Int32))) (16 : Int32)) (8 : Int32)) (4 : Int32)) (1 : Int32))), S) else some (((((((1 : Int32) + (16 : Int32)) + (8 : Int32)) + (4 : Int32)) + (2 : Int32)) + (ushr (ushr (ushr (ushr (ushr ((x0 ^^^ (-1 : Int32)) &&& (x0 - (1 : Int32))) (16 : Int32)) (8 : Int32)) (4 : Int32)) (2 : Int32)) (1 : Int32))), S))))) else some ((((x0 ^^^ (-1 : Int32)) &&& (x0 - (1 : Int32))) &&& (32 : Int32)), S))
theorem c_It_numberOfTrailingZeros (w : Wd) (d : Nat) (c : cx)   (S : hs) (x0 : Int32)  {z : Int32 × hs} (H : f_It_numberOfTrailingZeros S x0 = some z) : Cl w (d + 1) m_It_numberOfTrailingZeros [.int x0] (mk c S) (some (.int z.1)) (mk c z.2) := by
  refine Cl.of (Nat.le_refl _) (Nat.le_refl _) (by decide +kernel) (Nat.le_of_ble_eq_true rfl) ?_
  unfold f_It_numberOfTrailingZeros at H
  generalize hN (mk c S) = n0
  generalize hZ (mk c S) = z0
  show J w (d + 1) m_It_numberOfTrailingZeros (n0, z0, some (.int z.1), mk c z.2) 0 [some (.int x0), none] [] (mk c S)
  refine J.run b_It_numberOfTrailingZeros_0_9 k_It_numberOfTrailingZeros_0_9 rfl (show J w (d + 1) m_It_numberOfTrailingZeros (n0, z0, some (.int z.1), mk c z.2) 9 [some (.int ((x0 ^^^ (-1 : Int32)) &&& (x0 - (1 : Int32)))), none] [.int ((x0 ^^^ (-1 : Int32)) &&& (x0 - (1 : Int32)))] (mk c S) from ?_)
  refine J.zgt (tgt := 17) d_It_numberOfTrailingZeros_9 rfl (fun q1 => ?_) (fun q1 => ?_)
  · have H := ite_t H q1
    refine J.run b_It_numberOfTrailingZeros_17_4 k_It_numberOfTrailingZeros_17_4 rfl (show J w (d + 1) m_It_numberOfTrailingZeros (n0, z0, some (.int z.1), mk c z.2) 23 [some (.int ((x0 ^^^ (-1 : Int32)) &&& (x0 - (1 : Int32)))), some (.int (1 : Int32))] [.int (65536 : Int32), .int ((x0 ^^^ (-1 : Int32)) &&& (x0 - (1 : Int32)))] (mk c S) from ?_)
    refine J.cle (tgt := 34) d_It_numberOfTrailingZeros_23 rfl (fun q2 => ?_) (fun q2 => ?_)
    · have H := ite_t H q2
      refine J.run b_It_numberOfTrailingZeros_34_2 k_It_numberOfTrailingZeros_34_2 rfl (show J w (d + 1) m_It_numberOfTrailingZeros (n0, z0, some (.int z.1), mk c z.2) 38 [some (.int ((x0 ^^^ (-1 : Int32)) &&& (x0 - (1 : Int32)))), some (.int (1 : Int32))] [.int (256 : Int32), .int ((x0 ^^^ (-1 : Int32)) &&& (x0 - (1 : Int32)))] (mk c S) from ?_)
      refine J.cle (tgt := 49) d_It_numberOfTrailingZeros_38 rfl (fun q3 => ?_) (fun q3 => ?_)
      · have H := ite_t H q3
        refine J.run b_It_numberOfTrailingZeros_49_2 k_It_numberOfTrailingZeros_49_2 rfl (show J w (d + 1) m_It_numberOfTrailingZeros (n0, z0, some (.int z.1), mk c z.2) 52 [some (.int ((x0 ^^^ (-1 : Int32)) &&& (x0 - (1 : Int32)))), some (.int (1 : Int32))] [.int (16 : Int32), .int ((x0 ^^^ (-1 : Int32)) &&& (x0 - (1 : Int32)))] (mk c S) from ?_)
        refine J.cle (tgt := 62) d_It_numberOfTrailingZeros_52 rfl (fun q4 => ?_) (fun q4 => ?_)
        · have H := ite_t H q4
          refine J.run b_It_numberOfTrailingZeros_62_2 k_It_numberOfTrailingZeros_62_2 rfl (show J w (d + 1) m_It_numberOfTrailingZeros (n0, z0, some (.int z.1), mk c z.2) 64 [some (.int ((x0 ^^^ (-1 : Int32)) &&& (x0 - (1 : Int32)))), some (.int (1 : Int32))] [.int (4 : Int32), .int ((x0 ^^^ (-1 : Int32)) &&& (x0 - (1 : Int32)))] (mk c S) from ?_)
          refine J.cle (tgt := 74) d_It_numberOfTrailingZeros_64 rfl (fun q5 => ?_) (fun q5 => ?_)
          · have H := ite_t H q5
            refine J.run b_It_numberOfTrailingZeros_74_5 k_It_numberOfTrailingZeros_74_5 rfl (show J w (d + 1) m_It_numberOfTrailingZeros (n0, z0, some (.int z.1), mk c z.2) 79 [some (.int ((x0 ^^^ (-1 : Int32)) &&& (x0 - (1 : Int32)))), some (.int (1 : Int32))] [.int ((1 : Int32) + (ushr ((x0 ^^^ (-1 : Int32)) &&& (x0 - (1 : Int32))) (1 : Int32)))] (mk c S) from ?_)
            obtain rfl := some_e H
            exact J.iret d_It_numberOfTrailingZeros_79 rfl rfl
          · have H := ite_f H q5
            refine J.run b_It_numberOfTrailingZeros_67_10 k_It_numberOfTrailingZeros_67_10 rfl (show J w (d + 1) m_It_numberOfTrailingZeros (n0, z0, some (.int z.1), mk c z.2) 79 [some (.int (ushr ((x0 ^^^ (-1 : Int32)) &&& (x0 - (1 : Int32))) (2 : Int32))), some (.int ((1 : Int32) + (2 : Int32)))] [.int (((1 : Int32) + (2 : Int32)) + (ushr (ushr ((x0 ^^^ (-1 : Int32)) &&& (x0 - (1 : Int32))) (2 : Int32)) (1 : Int32)))] (mk c S) from ?_)
            obtain rfl := some_e H
            exact J.iret d_It_numberOfTrailingZeros_79 rfl rfl
        · have H := ite_f H q4
          refine J.run b_It_numberOfTrailingZeros_55_7 k_It_numberOfTrailingZeros_55_7 rfl (show J w (d + 1) m_It_numberOfTrailingZeros (n0, z0, some (.int z.1), mk c z.2) 64 [some (.int (ushr ((x0 ^^^ (-1 : Int32)) &&& (x0 - (1 : Int32))) (4 : Int32))), some (.int ((1 : Int32) + (4 : Int32)))] [.int (4 : Int32), .int (ushr ((x0 ^^^ (-1 : Int32)) &&& (x0 - (1 : Int32))) (4 : Int32))] (mk c S) from ?_)
          refine J.cle (tgt := 74) d_It_numberOfTrailingZeros_64 rfl (fun q6 => ?_) (fun q6 => ?_)
          · have H := ite_t H q6
            refine J.run b_It_numberOfTrailingZeros_74_5 k_It_numberOfTrailingZeros_74_5 rfl (show J w (d + 1) m_It_numberOfTrailingZeros (n0, z0, some (.int z.1), mk c z.2) 79 [some (.int (ushr ((x0 ^^^ (-1 : Int32)) &&& (x0 - (1 : Int32))) (4 : Int32))), some (.int ((1 : Int32) + (4 : Int32)))] [.int (((1 : Int32) + (4 : Int32)) + (ushr (ushr ((x0 ^^^ (-1 : Int32)) &&& (x0 - (1 : Int32))) (4 : Int32)) (1 : Int32)))] (mk c S) from ?_)
            obtain rfl := some_e H
            exact J.iret d_It_numberOfTrailingZeros_79 rfl rfl
          · have H := ite_f H q6
            refine J.run b_It_numberOfTrailingZeros_67_10 k_It_numberOfTrailingZeros_67_10 rfl (show J w (d + 1) m_It_numberOfTrailingZeros (n0, z0, some (.int z.1), mk c z.2) 79 [some (.int (ushr (ushr ((x0 ^^^ (-1 : Int32)) &&& (x0 - (1 : Int32))) (4 : Int32)) (2 : Int32))), some (.int (((1 : Int32) + (4 : Int32)) + (2 : Int32)))] [.int ((((1 : Int32) + (4 : Int32)) + (2 : Int32)) + (ushr (ushr (ushr ((x0 ^^^ (-1 : Int32)) &&& (x0 - (1 : Int32))) (4 : Int32)) (2 : Int32)) (1 : Int32)))] (mk c S) from ?_)
            obtain rfl := some_e H
            exact J.iret d_It_numberOfTrailingZeros_79 rfl rfl
      · have H := ite_f H q3
        refine J.run b_It_numberOfTrailingZeros_41_7 k_It_numberOfTrailingZeros_41_7 rfl (show J w (d + 1) m_It_numberOfTrailingZeros (n0, z0, some (.int z.1), mk c z.2) 52 [some (.int (ushr ((x0 ^^^ (-1 : Int32)) &&& (x0 - (1 : Int32))) (8 : Int32))), some (.int ((1 : Int32) + (8 : Int32)))] [.int (16 : Int32), .int (ushr ((x0 ^^^ (-1 : Int32)) &&& (x0 - (1 : Int32))) (8 : Int32))] (mk c S) from ?_)
        refine J.cle (tgt := 62) d_It_numberOfTrailingZeros_52 rfl (fun q7 => ?_) (fun q7 => ?_)
        · have H := ite_t H q7
          refine J.run b_It_numberOfTrailingZeros_62_2 k_It_numberOfTrailingZeros_62_2 rfl (show J w (d + 1) m_It_numberOfTrailingZeros (n0, z0, some (.int z.1), mk c z.2) 64 [some (.int (ushr ((x0 ^^^ (-1 : Int32)) &&& (x0 - (1 : Int32))) (8 : Int32))), some (.int ((1 : Int32) + (8 : Int32)))] [.int (4 : Int32), .int (ushr ((x0 ^^^ (-1 : Int32)) &&& (x0 - (1 : Int32))) (8 : Int32))] (mk c S) from ?_)
          refine J.cle (tgt := 74) d_It_numberOfTrailingZeros_64 rfl (fun q8 => ?_) (fun q8 => ?_)
          · have H := ite_t H q8
            refine J.run b_It_numberOfTrailingZeros_74_5 k_It_numberOfTrailingZeros_74_5 rfl (show J w (d + 1) m_It_numberOfTrailingZeros (n0, z0, some (.int z.1), mk c z.2) 79 [some (.int (ushr ((x0 ^^^ (-1 : Int32)) &&& (x0 - (1 : Int32))) (8 : Int32))), some (.int ((1 : Int32) + (8 : Int32)))] [.int (((1 : Int32) + (8 : Int32)) + (ushr (ushr ((x0 ^^^ (-1 : Int32)) &&& (x0 - (1 : Int32))) (8 : Int32)) (1 : Int32)))] (mk c S) from ?_)
            obtain rfl := some_e H
            exact J.iret d_It_numberOfTrailingZeros_79 rfl rfl
          · have H := ite_f H q8
            refine J.run b_It_numberOfTrailingZeros_67_10 k_It_numberOfTrailingZeros_67_10 rfl (show J w (d + 1) m_It_numberOfTrailingZeros (n0, z0, some (.int z.1), mk c z.2) 79 [some (.int (ushr (ushr ((x0 ^^^ (-1 : Int32)) &&& (x0 - (1 : Int32))) (8 : Int32)) (2 : Int32))), some (.int (((1 : Int32) + (8 : Int32)) + (2 : Int32)))] [.int ((((1 : Int32) + (8 : Int32)) + (2 : Int32)) + (ushr (ushr (ushr ((x0 ^^^ (-1 : Int32)) &&& (x0 - (1 : Int32))) (8 : Int32)) (2 : Int32)) (1 : Int32)))] (mk c S) from ?_)
            obtain rfl := some_e H
            exact J.iret d_It_numberOfTrailingZeros_79 rfl rfl
        · have H := ite_f H q7
          refine J.run b_It_numberOfTrailingZeros_55_7 k_It_numberOfTrailingZeros_55_7 rfl (show J w (d + 1) m_It_numberOfTrailingZeros (n0, z0, some (.int z.1), mk c z.2) 64 [some (.int (ushr (ushr ((x0 ^^^ (-1 : Int32)) &&& (x0 - (1 : Int32))) (8 : Int32)) (4 : Int32))), some (.int (((1 : Int32) + (8 : Int32)) + (4 : Int32)))] [.int (4 : Int32), .int (ushr (ushr ((x0 ^^^ (-1 : Int32)) &&& (x0 - (1 : Int32))) (8 : Int32)) (4 : Int32))] (mk c S) from ?_)
          refine J.cle (tgt := 74) d_It_numberOfTrailingZeros_64 rfl (fun q9 => ?_) (fun q9 => ?_)
          · have H := ite_t H q9
            refine J.run b_It_numberOfTrailingZeros_74_5 k_It_numberOfTrailingZeros_74_5 rfl (show J w (d + 1) m_It_numberOfTrailingZeros (n0, z0, some (.int z.1), mk c z.2) 79 [some (.int (ushr (ushr ((x0 ^^^ (-1 : Int32)) &&& (x0 - (1 : Int32))) (8 : Int32)) (4 : Int32))), some (.int (((1 : Int32) + (8 : Int32)) + (4 : Int32)))] [.int ((((1 : Int32) + (8 : Int32)) + (4 : Int32)) + (ushr (ushr (ushr ((x0 ^^^ (-1 : Int32)) &&& (x0 - (1 : Int32))) (8 : Int32)) (4 : Int32)) (1 : Int32)))] (mk c S) from ?_)
            obtain rfl := some_e H
            exact J.iret d_It_numberOfTrailingZeros_79 rfl rfl
          · have H := ite_f H q9
            refine J.run b_It_numberOfTrailingZeros_67_10 k_It_numberOfTrailingZeros_67_10 rfl (show J w (d + 1) m_It_numberOfTrailingZeros (n0, z0, some (.int z.1), mk c z.2) 79 [some (.int (ushr (ushr (ushr ((x0 ^^^ (-1 : Int32)) &&& (x0 - (1 : Int32))) (8 : Int32)) (4 : Int32)) (2 : Int32))), some (.int ((((1 : Int32) + (8 : Int32)) + (4 : Int32)) + (2 : Int32)))] [.int (((((1 : Int32) + (8 : Int32)) + (4 : Int32)) + (2 : Int32)) + (ushr (ushr (ushr (ushr ((x0 ^^^ (-1 : Int32)) &&& (x0 - (1 : Int32))) (8 : Int32)) (4 : Int32)) (2 : Int32)) (1 : Int32)))] (mk c S) from ?_)
            obtain rfl := some_e H
            exact J.iret d_It_numberOfTrailingZeros_79 rfl rfl
    · have H := ite_f H q2
      refine J.run b_It_numberOfTrailingZeros_26_7 k_It_numberOfTrailingZeros_26_7 rfl (show J w (d + 1) m_It_numberOfTrailingZeros (n0, z0, some (.int z.1), mk c z.2) 38 [some (.int (ushr ((x0 ^^^ (-1 : Int32)) &&& (x0 - (1 : Int32))) (16 : Int32))), some (.int ((1 : Int32) + (16 : Int32)))] [.int (256 : Int32), .int (ushr ((x0 ^^^ (-1 : Int32)) &&& (x0 - (1 : Int32))) (16 : Int32))] (mk c S) from ?_)
      refine J.cle (tgt := 49) d_It_numberOfTrailingZeros_38 rfl (fun q10 => ?_) (fun q10 => ?_)
      · have H := ite_t H q10
        refine J.run b_It_numberOfTrailingZeros_49_2 k_It_numberOfTrailingZeros_49_2 rfl (show J w (d + 1) m_It_numberOfTrailingZeros (n0, z0, some (.int z.1), mk c z.2) 52 [some (.int (ushr ((x0 ^^^ (-1 : Int32)) &&& (x0 - (1 : Int32))) (16 : Int32))), some (.int ((1 : Int32) + (16 : Int32)))] [.int (16 : Int32), .int (ushr ((x0 ^^^ (-1 : Int32)) &&& (x0 - (1 : Int32))) (16 : Int32))] (mk c S) from ?_)
        refine J.cle (tgt := 62) d_It_numberOfTrailingZeros_52 rfl (fun q11 => ?_) (fun q11 => ?_)
        · have H := ite_t H q11
          refine J.run b_It_numberOfTrailingZeros_62_2 k_It_numberOfTrailingZeros_62_2 rfl (show J w (d + 1) m_It_numberOfTrailingZeros (n0, z0, some (.int z.1), mk c z.2) 64 [some (.int (ushr ((x0 ^^^ (-1 : Int32)) &&& (x0 - (1 : Int32))) (16 : Int32))), some (.int ((1 : Int32) + (16 : Int32)))] [.int (4 : Int32), .int (ushr ((x0 ^^^ (-1 : Int32)) &&& (x0 - (1 : Int32))) (16 : Int32))] (mk c S) from ?_)
          refine J.cle (tgt := 74) d_It_numberOfTrailingZeros_64 rfl (fun q12 => ?_) (fun q12 => ?_)
          · have H := ite_t H q12
            refine J.run b_It_numberOfTrailingZeros_74_5 k_It_numberOfTrailingZeros_74_5 rfl (show J w (d + 1) m_It_numberOfTrailingZeros (n0, z0, some (.int z.1), mk c z.2) 79 [some (.int (ushr ((x0 ^^^ (-1 : Int32)) &&& (x0 - (1 : Int32))) (16 : Int32))), some (.int ((1 : Int32) + (16 : Int32)))] [.int (((1 : Int32) + (16 : Int32)) + (ushr (ushr ((x0 ^^^ (-1 : Int32)) &&& (x0 - (1 : Int32))) (16 : Int32)) (1 : Int32)))] (mk c S) from ?_)
            obtain rfl := some_e H
            exact J.iret d_It_numberOfTrailingZeros_79 rfl rfl
          · have H := ite_f H q12
            refine J.run b_It_numberOfTrailingZeros_67_10 k_It_numberOfTrailingZeros_67_10 rfl (show J w (d + 1) m_It_numberOfTrailingZeros (n0, z0, some (.int z.1), mk c z.2) 79 [some (.int (ushr (ushr ((x0 ^^^ (-1 : Int32)) &&& (x0 - (1 : Int32))) (16 : Int32)) (2 : Int32))), some (.int (((1 : Int32) + (16 : Int32)) + (2 : Int32)))] [.int ((((1 : Int32) + (16 : Int32)) + (2 : Int32)) + (ushr (ushr (ushr ((x0 ^^^ (-1 : Int32)) &&& (x0 - (1 : Int32))) (16 : Int32)) (2 : Int32)) (1 : Int32)))] (mk c S) from ?_)
            obtain rfl := some_e H
            exact J.iret d_It_numberOfTrailingZeros_79 rfl rfl
        · have H := ite_f H q11
          refine J.run b_It_numberOfTrailingZeros_55_7 k_It_numberOfTrailingZeros_55_7 rfl (show J w (d + 1) m_It_numberOfTrailingZeros (n0, z0, some (.int z.1), mk c z.2) 64 [some (.int (ushr (ushr ((x0 ^^^ (-1 : Int32)) &&& (x0 - (1 : Int32))) (16 : Int32)) (4 : Int32))), some (.int (((1 : Int32) + (16 : Int32)) + (4 : Int32)))] [.int (4 : Int32), .int (ushr (ushr ((x0 ^^^ (-1 : Int32)) &&& (x0 - (1 : Int32))) (16 : Int32)) (4 : Int32))] (mk c S) from ?_)
          refine J.cle (tgt := 74) d_It_numberOfTrailingZeros_64 rfl (fun q13 => ?_) (fun q13 => ?_)
          · have H := ite_t H q13
            refine J.run b_It_numberOfTrailingZeros_74_5 k_It_numberOfTrailingZeros_74_5 rfl (show J w (d + 1) m_It_numberOfTrailingZeros (n0, z0, some (.int z.1), mk c z.2) 79 [some (.int (ushr (ushr ((x0 ^^^ (-1 : Int32)) &&& (x0 - (1 : Int32))) (16 : Int32)) (4 : Int32))), some (.int (((1 : Int32) + (16 : Int32)) + (4 : Int32)))] [.int ((((1 : Int32) + (16 : Int32)) + (4 : Int32)) + (ushr (ushr (ushr ((x0 ^^^ (-1 : Int32)) &&& (x0 - (1 : Int32))) (16 : Int32)) (4 : Int32)) (1 : Int32)))] (mk c S) from ?_)
            obtain rfl := some_e H
            exact J.iret d_It_numberOfTrailingZeros_79 rfl rfl
          · have H := ite_f H q13
            refine J.run b_It_numberOfTrailingZeros_67_10 k_It_numberOfTrailingZeros_67_10 rfl (show J w (d + 1) m_It_numberOfTrailingZeros (n0, z0, some (.int z.1), mk c z.2) 79 [some (.int (ushr (ushr (ushr ((x0 ^^^ (-1 : Int32)) &&& (x0 - (1 : Int32))) (16 : Int32)) (4 : Int32)) (2 : Int32))), some (.int ((((1 : Int32) + (16 : Int32)) + (4 : Int32)) + (2 : Int32)))] [.int (((((1 : Int32) + (16 : Int32)) + (4 : Int32)) + (2 : Int32)) + (ushr (ushr (ushr (ushr ((x0 ^^^ (-1 : Int32)) &&& (x0 - (1 : Int32))) (16 : Int32)) (4 : Int32)) (2 : Int32)) (1 : Int32)))] (mk c S) from ?_)
            obtain rfl := some_e H
            exact J.iret d_It_numberOfTrailingZeros_79 rfl rfl
      · have H := ite_f H q10
        refine J.run b_It_numberOfTrailingZeros_41_7 k_It_numberOfTrailingZeros_41_7 rfl (show J w (d + 1) m_It_numberOfTrailingZeros (n0, z0, some (.int z.1), mk c z.2) 52 [some (.int (ushr (ushr ((x0 ^^^ (-1 : Int32)) &&& (x0 - (1 : Int32))) (16 : Int32)) (8 : Int32))), some (.int (((1 : Int32) + (16 : Int32)) + (8 : Int32)))] [.int (16 : Int32), .int (ushr (ushr ((x0 ^^^ (-1 : Int32)) &&& (x0 - (1 : Int32))) (16 : Int32)) (8 : Int32))] (mk c S) from ?_)
        refine J.cle (tgt := 62) d_It_numberOfTrailingZeros_52 rfl (fun q14 => ?_) (fun q14 => ?_)
        · have H := ite_t H q14
          refine J.run b_It_numberOfTrailingZeros_62_2 k_It_numberOfTrailingZeros_62_2 rfl (show J w (d + 1) m_It_numberOfTrailingZeros (n0, z0, some (.int z.1), mk c z.2) 64 [some (.int (ushr (ushr ((x0 ^^^ (-1 : Int32)) &&& (x0 - (1 : Int32))) (16 : Int32)) (8 : Int32))), some (.int (((1 : Int32) + (16 : Int32)) + (8 : Int32)))] [.int (4 : Int32), .int (ushr (ushr ((x0 ^^^ (-1 : Int32)) &&& (x0 - (1 : Int32))) (16 : Int32)) (8 : Int32))] (mk c S) from ?_)
          refine J.cle (tgt := 74) d_It_numberOfTrailingZeros_64 rfl (fun q15 => ?_) (fun q15 => ?_)
          · have H := ite_t H q15
            refine J.run b_It_numberOfTrailingZeros_74_5 k_It_numberOfTrailingZeros_74_5 rfl (show J w (d + 1) m_It_numberOfTrailingZeros (n0, z0, some (.int z.1), mk c z.2) 79 [some (.int (ushr (ushr ((x0 ^^^ (-1 : Int32)) &&& (x0 - (1 : Int32))) (16 : Int32)) (8 : Int32))), some (.int (((1 : Int32) + (16 : Int32)) + (8 : Int32)))] [.int ((((1 : Int32) + (16 : Int32)) + (8 : Int32)) + (ushr (ushr (ushr ((x0 ^^^ (-1 : Int32)) &&& (x0 - (1 : Int32))) (16 : Int32)) (8 : Int32)) (1 : Int32)))] (mk c S) from ?_)
            obtain rfl := some_e H
            exact J.iret d_It_numberOfTrailingZeros_79 rfl rfl
          · have H := ite_f H q15
            refine J.run b_It_numberOfTrailingZeros_67_10 k_It_numberOfTrailingZeros_67_10 rfl (show J w (d + 1) m_It_numberOfTrailingZeros (n0, z0, some (.int z.1), mk c z.2) 79 [some (.int (ushr (ushr (ushr ((x0 ^^^ (-1 : Int32)) &&& (x0 - (1 : Int32))) (16 : Int32)) (8 : Int32)) (2 : Int32))), some (.int ((((1 : Int32) + (16 : Int32)) + (8 : Int32)) + (2 : Int32)))] [.int (((((1 : Int32) + (16 : Int32)) + (8 : Int32)) + (2 : Int32)) + (ushr (ushr (ushr (ushr ((x0 ^^^ (-1 : Int32)) &&& (x0 - (1 : Int32))) (16 : Int32)) (8 : Int32)) (2 : Int32)) (1 : Int32)))] (mk c S) from ?_)
            obtain rfl := some_e H
            exact J.iret d_It_numberOfTrailingZeros_79 rfl rfl
        · have H := ite_f H q14
          refine J.run b_It_numberOfTrailingZeros_55_7 k_It_numberOfTrailingZeros_55_7 rfl (show J w (d + 1) m_It_numberOfTrailingZeros (n0, z0, some (.int z.1), mk c z.2) 64 [some (.int (ushr (ushr (ushr ((x0 ^^^ (-1 : Int32)) &&& (x0 - (1 : Int32))) (16 : Int32)) (8 : Int32)) (4 : Int32))), some (.int ((((1 : Int32) + (16 : Int32)) + (8 : Int32)) + (4 : Int32)))] [.int (4 : Int32), .int (ushr (ushr (ushr ((x0 ^^^ (-1 : Int32)) &&& (x0 - (1 : Int32))) (16 : Int32)) (8 : Int32)) (4 : Int32))] (mk c S) from ?_)
          refine J.cle (tgt := 74) d_It_numberOfTrailingZeros_64 rfl (fun q16 => ?_) (fun q16 => ?_)
          · have H := ite_t H q16
            refine J.run b_It_numberOfTrailingZeros_74_5 k_It_numberOfTrailingZeros_74_5 rfl (show J w (d + 1) m_It_numberOfTrailingZeros (n0, z0, some (.int z.1), mk c z.2) 79 [some (.int (ushr (ushr (ushr ((x0 ^^^ (-1 : Int32)) &&& (x0 - (1 : Int32))) (16 : Int32)) (8 : Int32)) (4 : Int32))), some (.int ((((1 : Int32) + (16 : Int32)) + (8 : Int32)) + (4 : Int32)))] [.int (((((1 : Int32) + (16 : Int32)) + (8 : Int32)) + (4 : Int32)) + (ushr (ushr (ushr (ushr ((x0 ^^^ (-1 : Int32)) &&& (x0 - (1 : Int32))) (16 : Int32)) (8 : Int32)) (4 : Int32)) (1 : Int32)))] (mk c S) from ?_)
            obtain rfl := some_e H
            exact J.iret d_It_numberOfTrailingZeros_79 rfl rfl
          · have H := ite_f H q16
            refine J.run b_It_numberOfTrailingZeros_67_10 k_It_numberOfTrailingZeros_67_10 rfl (show J w (d + 1) m_It_numberOfTrailingZeros (n0, z0, some (.int z.1), mk c z.2) 79 [some (.int (ushr (ushr (ushr (ushr ((x0 ^^^ (-1 : Int32)) &&& (x0 - (1 : Int32))) (16 : Int32)) (8 : Int32)) (4 : Int32)) (2 : Int32))), some (.int (((((1 : Int32) + (16 : Int32)) + (8 : Int32)) + (4 : Int32)) + (2 : Int32)))] [.int ((((((1 : Int32) + (16 : Int32)) + (8 : Int32)) + (4 : Int32)) + (2 : Int32)) + (ushr (ushr (ushr (ushr (ushr ((x0 ^^^ (-1 : Int32)) &&& (x0 - (1 : Int32))) (16 : Int32)) (8 : Int32)) (4 : Int32)) (2 : Int32)) (1 : Int32)))] (mk c S) from ?_)
            obtain rfl := some_e H
            exact J.iret d_It_numberOfTrailingZeros_79 rfl rfl
  · have H := ite_f H q1
    refine J.run b_It_numberOfTrailingZeros_12_3 k_It_numberOfTrailingZeros_12_3 rfl (show J w (d + 1) m_It_numberOfTrailingZeros (n0, z0, some (.int z.1), mk c z.2) 16 [some (.int ((x0 ^^^ (-1 : Int32)) &&& (x0 - (1 : Int32)))), none] [.int (((x0 ^^^ (-1 : Int32)) &&& (x0 - (1 : Int32))) &&& (32 : Int32))] (mk c S) from ?_)
    obtain rfl := some_e H
    exact J.iret d_It_numberOfTrailingZeros_16 rfl rfl
def b_Lo_numberOfTrailingZeros_0_4 : List Ins := [(.lload_n 0, 0, 0, 0), (.l2i, 0, 0, 0), (.istore_n 2, 0, 0, 0), (.iload_n 2, 0, 0, 0)]
theorem k_Lo_numberOfTrailingZeros_0_4 : bok m_Lo_numberOfTrailingZeros 0 b_Lo_numberOfTrailingZeros_0_4 = true := by decide +kernel
def b_Lo_numberOfTrailingZeros_21_1 : List Ins := [(.iload_n 2, 0, 0, 0)]
theorem k_Lo_numberOfTrailingZeros_21_1 : bok m_Lo_numberOfTrailingZeros 21 b_Lo_numberOfTrailingZeros_21_1 = true := by decide +kernel
def b_Lo_numberOfTrailingZeros_7_5 : List Ins := [(.bipush (32), 0, 0, 0), (.lload_n 0, 0, 0, 0), (.bipush (32), 0, 0, 0), (.lushr, 0, 0, 0), (.l2i, 0, 0, 0)]
theorem k_Lo_numberOfTrailingZeros_7_5 : bok m_Lo_numberOfTrailingZeros 7 b_Lo_numberOfTrailingZeros_7_5 = true := by decide +kernel
def b_Lo_numberOfTrailingZeros_17_1 : List Ins := [(.iadd, 0, 0, 0)]
theorem k_Lo_numberOfTrailingZeros_17_1 : bok m_Lo_numberOfTrailingZeros 17 b_Lo_numberOfTrailingZeros_17_1 = true := by decide +kernel
theorem d_Lo_numberOfTrailingZeros_4 : decode m_Lo_numberOfTrailingZeros.2.1 4 = .ok (.ifCond .ne (17), 3) := by decide +kernel
theorem d_Lo_numberOfTrailingZeros_22 : decode m_Lo_numberOfTrailingZeros.2.1 22 = .ok (.invokestatic 311, 3) := by decide +kernel
theorem d_Lo_numberOfTrailingZeros_25 : decode m_Lo_numberOfTrailingZeros.2.1 25 = .ok (.ireturn, 1) := by decide +kernel
theorem d_Lo_numberOfTrailingZeros_14 : decode m_Lo_numberOfTrailingZeros.2.1 14 = .ok (.invokestatic 311, 3) := by decide +kernel
theorem d_Lo_numberOfTrailingZeros_18 : decode m_Lo_numberOfTrailingZeros.2.1 18 = .ok (.goto (7), 3) := by decide +kernel
def f_Lo_numberOfTrailingZeros  (S : hs) (x0 : Int64) : Option (Int32 × hs) := (if (x0.toInt32) = 0 then bd (f_It_numberOfTrailingZeros  S ((lushr x0 (32 : Int32)).toInt32)) fun r5 S6 => some (((32 : Int32) + r5), S6) else bd (f_It_numberOfTrailingZeros  S (x0.toInt32)) fun r2 S3 => some (r2, S3))
theorem c_Lo_numberOfTrailingZeros (w : Wd) (d : Nat) (c : cx)   (S : hs) (x0 : Int64)  {z : Int32 × hs} (H : f_Lo_numberOfTrailingZeros S x0 = some z) : Cl w (d + 2) m_Lo_numberOfTrailingZeros [.long x0] (mk c S) (some (.int z.1)) (mk c z.2) := by
  refine Cl.of (Nat.le_refl _) (Nat.le_refl _) (by decide +kernel) (Nat.le_of_ble_eq_true rfl) ?_
  unfold f_Lo_numberOfTrailingZeros at H
  generalize hN (mk c S) = n0
  generalize hZ (mk c S) = z0
  show J w (d + 2) m_Lo_numberOfTrailingZeros (n0, z0, some (.int z.1), mk c z.2) 0 [some (.long x0), none, none] [] (mk c S)
  refine J.run b_Lo_numberOfTrailingZeros_0_4 k_Lo_numberOfTrailingZeros_0_4 rfl (show J w (d + 2) m_Lo_numberOfTrailingZeros (n0, z0, some (.int z.1), mk c z.2) 4 [some (.long x0), none, some (.int (x0.toInt32))] [.int (x0.toInt32)] (mk c S) from ?_)
  refine J.zne (tgt := 21) d_Lo_numberOfTrailingZeros_4 rfl (fun q1 => ?_) (fun q1 => ?_)
  · have H := ite_f H q1
    refine J.run b_Lo_numberOfTrailingZeros_21_1 k_Lo_numberOfTrailingZeros_21_1 rfl (show J w (d + 2) m_Lo_numberOfTrailingZeros (n0, z0, some (.int z.1), mk c z.2) 22 [some (.long x0), none, some (.int (x0.toInt32))] [.int (x0.toInt32)] (mk c S) from ?_)
    obtain ⟨r2, S3, h4, H⟩ := bd_e H
    refine J.callS (y := m_It_numberOfTrailingZeros) (av := [.int (x0.toInt32)]) (rest := []) l_Lo_311 d_Lo_numberOfTrailingZeros_22 (c_It_numberOfTrailingZeros w (d + 0) c  S (x0.toInt32) h4) rfl (Nat.le_of_ble_eq_true rfl) ⟨Nat.le_refl _, Nat.le_refl _⟩ (show J w (d + 2) m_Lo_numberOfTrailingZeros (n0, z0, some (.int z.1), mk c z.2) 25 [some (.long x0), none, some (.int (x0.toInt32))] [.int r2] (mk c S3) from ?_)
    obtain rfl := some_e H
    exact J.iret d_Lo_numberOfTrailingZeros_25 rfl rfl
  · have H := ite_t H q1
    refine J.run b_Lo_numberOfTrailingZeros_7_5 k_Lo_numberOfTrailingZeros_7_5 rfl (show J w (d + 2) m_Lo_numberOfTrailingZeros (n0, z0, some (.int z.1), mk c z.2) 14 [some (.long x0), none, some (.int (x0.toInt32))] [.int ((lushr x0 (32 : Int32)).toInt32), .int (32 : Int32)] (mk c S) from ?_)
    obtain ⟨r5, S6, h7, H⟩ := bd_e H
    refine J.callS (y := m_It_numberOfTrailingZeros) (av := [.int ((lushr x0 (32 : Int32)).toInt32)]) (rest := [.int (32 : Int32)]) l_Lo_311 d_Lo_numberOfTrailingZeros_14 (c_It_numberOfTrailingZeros w (d + 0) c  S ((lushr x0 (32 : Int32)).toInt32) h7) rfl (Nat.le_of_ble_eq_true rfl) ⟨Nat.le_refl _, Nat.le_refl _⟩ (show J w (d + 2) m_Lo_numberOfTrailingZeros (n0, z0, some (.int z.1), mk c z.2) 17 [some (.long x0), none, some (.int (x0.toInt32))] [.int r5, .int (32 : Int32)] (mk c S6) from ?_)
    refine J.run b_Lo_numberOfTrailingZeros_17_1 k_Lo_numberOfTrailingZeros_17_1 rfl (show J w (d + 2) m_Lo_numberOfTrailingZeros (n0, z0, some (.int z.1), mk c z.2) 18 [some (.long x0), none, some (.int (x0.toInt32))] [.int ((32 : Int32) + r5)] (mk c S6) from ?_)
    refine J.goto (tgt := 25) d_Lo_numberOfTrailingZeros_18 rfl ?_
    obtain rfl := some_e H
    exact J.iret d_Lo_numberOfTrailingZeros_25 rfl rfl
def b_W_coursesFrom_0_8 : List Ins := [(.lconst 1, 0, 0, 0), (.iload_n 1, 0, 0, 0), (.lshl, 0, 0, 0), (.lstore 4, 0, 0, 0), (.lload 4, 0, 0, 0), (.lstore 6, 0, 0, 0), (.iconst (0), 0, 0, 0), (.istore 8, 0, 0, 0)]
theorem k_W_coursesFrom_0_8 : bok m_W_coursesFrom 0 b_W_coursesFrom_0_8 = true := by decide +kernel
def b_W_coursesFrom_12_3 : List Ins := [(.iload 8, 0, 0, 0), (.aload_n 0, 0, 0, 0), (.getfield 58, 4, 10, 0)]
theorem k_W_coursesFrom_12_3 : bok m_W_coursesFrom 12 b_W_coursesFrom_12_3 = true := by decide +kernel
def b_W_coursesFrom_95_1 : List Ins := [(.lload 4, 0, 0, 0)]
theorem k_W_coursesFrom_95_1 : bok m_W_coursesFrom 95 b_W_coursesFrom_95_1 = true := by decide +kernel
def b_W_coursesFrom_21_3 : List Ins := [(.lload 6, 0, 0, 0), (.lconst 0, 0, 0, 0), (.lcmp, 0, 0, 0)]
theorem k_W_coursesFrom_21_3 : bok m_W_coursesFrom 21 b_W_coursesFrom_21_3 = true := by decide +kernel
def b_W_coursesFrom_28_1 : List Ins := [(.lload 6, 0, 0, 0)]
theorem k_W_coursesFrom_28_1 : bok m_W_coursesFrom 28 b_W_coursesFrom_28_1 = true := by decide +kernel
def b_W_coursesFrom_33_4 : List Ins := [(.istore 9, 0, 0, 0), (.iload 9, 0, 0, 0), (.aload_n 0, 0, 0, 0), (.getfield 58, 4, 10, 0)]
theorem k_W_coursesFrom_33_4 : bok m_W_coursesFrom 33 b_W_coursesFrom_33_4 = true := by decide +kernel
def b_W_coursesFrom_63_17 : List Ins := [(.lconst 0, 0, 0, 0), (.lstore 10, 0, 0, 0), (.lload 4, 0, 0, 0), (.lload 10, 0, 0, 0), (.lor, 0, 0, 0), (.lstore 4, 0, 0, 0), (.lload 6, 0, 0, 0), (.lconst 1, 0, 0, 0), (.iload 9, 0, 0, 0), (.lshl, 0, 0, 0), (.ldc2_w 106, 1, 1, 0), (.lxor, 0, 0, 0), (.land, 0, 0, 0), (.lload 10, 0, 0, 0), (.lor, 0, 0, 0), (.lstore 6, 0, 0, 0), (.iinc 8 (1), 0, 0, 0)]
theorem k_W_coursesFrom_63_17 : bok m_W_coursesFrom 63 b_W_coursesFrom_63_17 = true := by decide +kernel
def b_W_coursesFrom_44_10 : List Ins := [(.aload_n 0, 0, 0, 0), (.getfield 21, 4, 3, 2), (.iload 9, 0, 0, 0), (.laload, 0, 0, 0), (.lload_n 2, 0, 0, 0), (.land, 0, 0, 0), (.lload 4, 0, 0, 0), (.ldc2_w 106, 1, 1, 0), (.lxor, 0, 0, 0), (.land, 0, 0, 0)]
theorem k_W_coursesFrom_44_10 : bok m_W_coursesFrom 44 b_W_coursesFrom_44_10 = true := by decide +kernel
def b_W_coursesFrom_64_16 : List Ins := [(.lstore 10, 0, 0, 0), (.lload 4, 0, 0, 0), (.lload 10, 0, 0, 0), (.lor, 0, 0, 0), (.lstore 4, 0, 0, 0), (.lload 6, 0, 0, 0), (.lconst 1, 0, 0, 0), (.iload 9, 0, 0, 0), (.lshl, 0, 0, 0), (.ldc2_w 106, 1, 1, 0), (.lxor, 0, 0, 0), (.land, 0, 0, 0), (.lload 10, 0, 0, 0), (.lor, 0, 0, 0), (.lstore 6, 0, 0, 0), (.iinc 8 (1), 0, 0, 0)]
theorem k_W_coursesFrom_64_16 : bok m_W_coursesFrom 64 b_W_coursesFrom_64_16 = true := by decide +kernel
theorem d_W_coursesFrom_18 : decode m_W_coursesFrom.2.1 18 = .ok (.if_icmp .ge (77), 3) := by decide +kernel
theorem d_W_coursesFrom_97 : decode m_W_coursesFrom.2.1 97 = .ok (.lreturn, 1) := by decide +kernel
theorem d_W_coursesFrom_25 : decode m_W_coursesFrom.2.1 25 = .ok (.ifCond .eq (70), 3) := by decide +kernel
theorem d_W_coursesFrom_30 : decode m_W_coursesFrom.2.1 30 = .ok (.invokestatic 114, 3) := by decide +kernel
theorem d_W_coursesFrom_41 : decode m_W_coursesFrom.2.1 41 = .ok (.if_icmp .ge (22), 3) := by decide +kernel
theorem d_W_coursesFrom_92 : decode m_W_coursesFrom.2.1 92 = .ok (.goto (-80), 3) := by decide +kernel
theorem d_W_coursesFrom_60 : decode m_W_coursesFrom.2.1 60 = .ok (.goto (4), 3) := by decide +kernel
def lp_W_coursesFrom_12 (x2 : Int64)   : Nat → hs → Int64 → Int64 → Int32 → Option (Int64 × hs)
  | 0, _, _, _, _ => none
  | n + 1, S, x4, x6, x8 => (if (gI S 138 10) ≤ x8 then some (x4, S) else (if (lg_cmp x6 (0 : Int64)) = 0 then some (x4, S) else bd (f_Lo_numberOfTrailingZeros  S x6) fun r3 S4 => (if (gI S4 138 10) ≤ r3 then lp_W_coursesFrom_12 x2 n S4 (x4 ||| (0 : Int64)) ((x6 &&& (((1 : Int64) <<< (r3.toInt64 &&& 63)) ^^^ (-1 : Int64))) ||| (0 : Int64)) (x8 + (1 : Int32)) else ck (inb r3 40) (lp_W_coursesFrom_12 x2 n S4 (x4 ||| (((gJ S4 142 (r3).toNatClampNeg) &&& x2) &&& (x4 ^^^ (-1 : Int64)))) ((x6 &&& (((1 : Int64) <<< (r3.toInt64 &&& 63)) ^^^ (-1 : Int64))) ||| (((gJ S4 142 (r3).toNatClampNeg) &&& x2) &&& (x4 ^^^ (-1 : Int64)))) (x8 + (1 : Int32))))))
def f_W_coursesFrom  (S : hs) (x1 : Int32) (x2 : Int64) : Option (Int64 × hs) := lp_W_coursesFrom_12 x2 1000 S ((1 : Int64) <<< (x1.toInt64 &&& 63)) ((1 : Int64) <<< (x1.toInt64 &&& 63)) (0 : Int32)
theorem lo_W_coursesFrom_12 (w : Wd) (d : Nat) (c : cx) {n0 z0 : Nat} {z : Int64 × hs}   (x2 : Int64)    :
    ∀ (n : Nat) (S : hs) (x4 : Int64) (x6 : Int64) (x8 : Int32), lp_W_coursesFrom_12 x2 n S x4 x6 x8 = some z → J w (d + 3) m_W_coursesFrom (n0, z0, some (.long z.1), mk c z.2) 12 [some (.ref 138), none, some (.long x2), none, some (.long x4), none, some (.long x6), none, some (.int x8), none, none, none] [] (mk c S) := by
  intro n
  induction n with
  | zero => intro S x4 x6 x8 H; cases H
  | succ n ih =>
    intro S x4 x6 x8 H
    rw [lp_W_coursesFrom_12] at H
    refine J.run b_W_coursesFrom_12_3 k_W_coursesFrom_12_3 rfl (And.intro (okO_st (S := S) rfl) (show J w (d + 3) m_W_coursesFrom (n0, z0, some (.long z.1), mk c z.2) 18 [some (.ref 138), none, some (.long x2), none, some (.long x4), none, some (.long x6), none, some (.int x8), none, none, none] [.int (gI S 138 10), .int x8] (mk c S) from ?_))
    refine J.cge (tgt := 95) d_W_coursesFrom_18 rfl (fun q1 => ?_) (fun q1 => ?_)
    · have H := ite_t H q1
      refine J.run b_W_coursesFrom_95_1 k_W_coursesFrom_95_1 rfl (show J w (d + 3) m_W_coursesFrom (n0, z0, some (.long z.1), mk c z.2) 97 [some (.ref 138), none, some (.long x2), none, some (.long x4), none, some (.long x6), none, some (.int x8), none, none, none] [.long x4] (mk c S) from ?_)
      obtain rfl := some_e H
      exact J.lret d_W_coursesFrom_97 rfl rfl
    · have H := ite_f H q1
      refine J.run b_W_coursesFrom_21_3 k_W_coursesFrom_21_3 rfl (show J w (d + 3) m_W_coursesFrom (n0, z0, some (.long z.1), mk c z.2) 25 [some (.ref 138), none, some (.long x2), none, some (.long x4), none, some (.long x6), none, some (.int x8), none, none, none] [.int (lg_cmp x6 (0 : Int64))] (mk c S) from ?_)
      refine J.zeq (tgt := 95) d_W_coursesFrom_25 rfl (fun q2 => ?_) (fun q2 => ?_)
      · have H := ite_t H q2
        refine J.run b_W_coursesFrom_95_1 k_W_coursesFrom_95_1 rfl (show J w (d + 3) m_W_coursesFrom (n0, z0, some (.long z.1), mk c z.2) 97 [some (.ref 138), none, some (.long x2), none, some (.long x4), none, some (.long x6), none, some (.int x8), none, none, none] [.long x4] (mk c S) from ?_)
        obtain rfl := some_e H
        exact J.lret d_W_coursesFrom_97 rfl rfl
      · have H := ite_f H q2
        refine J.run b_W_coursesFrom_28_1 k_W_coursesFrom_28_1 rfl (show J w (d + 3) m_W_coursesFrom (n0, z0, some (.long z.1), mk c z.2) 30 [some (.ref 138), none, some (.long x2), none, some (.long x4), none, some (.long x6), none, some (.int x8), none, none, none] [.long x6] (mk c S) from ?_)
        obtain ⟨r3, S4, h5, H⟩ := bd_e H
        refine J.callS (y := m_Lo_numberOfTrailingZeros) (av := [.long x6]) (rest := []) l_W_114 d_W_coursesFrom_30 (c_Lo_numberOfTrailingZeros w (d + 0) c  S x6 h5) rfl (Nat.le_of_ble_eq_true rfl) ⟨Nat.le_refl _, Nat.le_refl _⟩ (show J w (d + 3) m_W_coursesFrom (n0, z0, some (.long z.1), mk c z.2) 33 [some (.ref 138), none, some (.long x2), none, some (.long x4), none, some (.long x6), none, some (.int x8), none, none, none] [.int r3] (mk c S4) from ?_)
        refine J.run b_W_coursesFrom_33_4 k_W_coursesFrom_33_4 rfl (And.intro (okO_st (S := S4) rfl) (show J w (d + 3) m_W_coursesFrom (n0, z0, some (.long z.1), mk c z.2) 41 [some (.ref 138), none, some (.long x2), none, some (.long x4), none, some (.long x6), none, some (.int x8), some (.int r3), none, none] [.int (gI S4 138 10), .int r3] (mk c S4) from ?_))
        refine J.cge (tgt := 63) d_W_coursesFrom_41 rfl (fun q6 => ?_) (fun q6 => ?_)
        · have H := ite_t H q6
          refine J.run b_W_coursesFrom_63_17 k_W_coursesFrom_63_17 rfl (show J w (d + 3) m_W_coursesFrom (n0, z0, some (.long z.1), mk c z.2) 92 [some (.ref 138), none, some (.long x2), none, some (.long (x4 ||| (0 : Int64))), none, some (.long ((x6 &&& (((1 : Int64) <<< (r3.toInt64 &&& 63)) ^^^ (-1 : Int64))) ||| (0 : Int64))), none, some (.int (x8 + (1 : Int32))), some (.int r3), some (.long (0 : Int64)), none] [] (mk c S4) from ?_)
          refine J.goto (tgt := 12) d_W_coursesFrom_92 rfl ?_
          refine J.mask [true, false, true, false, true, false, true, false, true, false, false, false] ?_
          exact ih S4 (x4 ||| (0 : Int64)) ((x6 &&& (((1 : Int64) <<< (r3.toInt64 &&& 63)) ^^^ (-1 : Int64))) ||| (0 : Int64)) (x8 + (1 : Int32)) H
        · have H := ite_f H q6
          obtain ⟨g7, H⟩ := ck_e H
          refine J.run b_W_coursesFrom_44_10 k_W_coursesFrom_44_10 rfl (And.intro (okO_st (S := S4) rfl) (And.intro (okA_st (S := S4) (n := 40) rfl g7) (show J w (d + 3) m_W_coursesFrom (n0, z0, some (.long z.1), mk c z.2) 60 [some (.ref 138), none, some (.long x2), none, some (.long x4), none, some (.long x6), none, some (.int x8), some (.int r3), none, none] [.long (((gJ S4 142 (r3).toNatClampNeg) &&& x2) &&& (x4 ^^^ (-1 : Int64)))] (mk c S4) from ?_)))
          refine J.goto (tgt := 64) d_W_coursesFrom_60 rfl ?_
          refine J.run b_W_coursesFrom_64_16 k_W_coursesFrom_64_16 rfl (show J w (d + 3) m_W_coursesFrom (n0, z0, some (.long z.1), mk c z.2) 92 [some (.ref 138), none, some (.long x2), none, some (.long (x4 ||| (((gJ S4 142 (r3).toNatClampNeg) &&& x2) &&& (x4 ^^^ (-1 : Int64))))), none, some (.long ((x6 &&& (((1 : Int64) <<< (r3.toInt64 &&& 63)) ^^^ (-1 : Int64))) ||| (((gJ S4 142 (r3).toNatClampNeg) &&& x2) &&& (x4 ^^^ (-1 : Int64))))), none, some (.int (x8 + (1 : Int32))), some (.int r3), some (.long (((gJ S4 142 (r3).toNatClampNeg) &&& x2) &&& (x4 ^^^ (-1 : Int64)))), none] [] (mk c S4) from ?_)
          refine J.goto (tgt := 12) d_W_coursesFrom_92 rfl ?_
          refine J.mask [true, false, true, false, true, false, true, false, true, false, false, false] ?_
          exact ih S4 (x4 ||| (((gJ S4 142 (r3).toNatClampNeg) &&& x2) &&& (x4 ^^^ (-1 : Int64)))) ((x6 &&& (((1 : Int64) <<< (r3.toInt64 &&& 63)) ^^^ (-1 : Int64))) ||| (((gJ S4 142 (r3).toNatClampNeg) &&& x2) &&& (x4 ^^^ (-1 : Int64)))) (x8 + (1 : Int32)) H
theorem c_W_coursesFrom (w : Wd) (d : Nat) (c : cx)   (S : hs) (x1 : Int32) (x2 : Int64)  {z : Int64 × hs} (H : f_W_coursesFrom S x1 x2 = some z) : Cl w (d + 3) m_W_coursesFrom [.ref 138, .int x1, .long x2] (mk c S) (some (.long z.1)) (mk c z.2) := by
  refine Cl.of (Nat.le_refl _) (Nat.le_refl _) (by decide +kernel) (Nat.le_of_ble_eq_true rfl) ?_
  unfold f_W_coursesFrom at H
  generalize hN (mk c S) = n0
  generalize hZ (mk c S) = z0
  show J w (d + 3) m_W_coursesFrom (n0, z0, some (.long z.1), mk c z.2) 0 [some (.ref 138), some (.int x1), some (.long x2), none, none, none, none, none, none, none, none, none] [] (mk c S)
  refine J.run b_W_coursesFrom_0_8 k_W_coursesFrom_0_8 rfl (show J w (d + 3) m_W_coursesFrom (n0, z0, some (.long z.1), mk c z.2) 12 [some (.ref 138), some (.int x1), some (.long x2), none, some (.long ((1 : Int64) <<< (x1.toInt64 &&& 63))), none, some (.long ((1 : Int64) <<< (x1.toInt64 &&& 63))), none, some (.int (0 : Int32)), none, none, none] [] (mk c S) from ?_)
  refine J.mask [true, false, true, false, true, false, true, false, true, false, false, false] ?_
  refine lo_W_coursesFrom_12 w d c x2  1000 S ((1 : Int64) <<< (x1.toInt64 &&& 63)) ((1 : Int64) <<< (x1.toInt64 &&& 63)) (0 : Int32) H
def b_W_endsOf_0_4 : List Ins := [(.iconst (0), 0, 0, 0), (.istore_n 3, 0, 0, 0), (.iconst (0), 0, 0, 0), (.istore 4, 0, 0, 0)]
theorem k_W_endsOf_0_4 : bok m_W_endsOf 0 b_W_endsOf_0_4 = true := by decide +kernel
def b_W_endsOf_5_3 : List Ins := [(.iload 4, 0, 0, 0), (.aload_n 0, 0, 0, 0), (.getfield 58, 4, 10, 0)]
theorem k_W_endsOf_5_3 : bok m_W_endsOf 5 b_W_endsOf_5_3 = true := by decide +kernel
def b_W_endsOf_45_1 : List Ins := [(.iload_n 3, 0, 0, 0)]
theorem k_W_endsOf_45_1 : bok m_W_endsOf 45 b_W_endsOf_45_1 = true := by decide +kernel
def b_W_endsOf_14_3 : List Ins := [(.iload_n 3, 0, 0, 0), (.lload_n 1, 0, 0, 0), (.iload 4, 0, 0, 0)]
theorem k_W_endsOf_14_3 : bok m_W_endsOf 14 b_W_endsOf_14_3 = true := by decide +kernel
def b_W_endsOf_36_4 : List Ins := [(.iconst (0), 0, 0, 0), (.ior, 0, 0, 0), (.istore_n 3, 0, 0, 0), (.iinc 4 (1), 0, 0, 0)]
theorem k_W_endsOf_36_4 : bok m_W_endsOf 36 b_W_endsOf_36_4 = true := by decide +kernel
def b_W_endsOf_24_6 : List Ins := [(.iconst (1), 0, 0, 0), (.aload_n 0, 0, 0, 0), (.getfield 15, 4, 1, 2), (.iload 4, 0, 0, 0), (.iaload, 0, 0, 0), (.ishl, 0, 0, 0)]
theorem k_W_endsOf_24_6 : bok m_W_endsOf 24 b_W_endsOf_24_6 = true := by decide +kernel
def b_W_endsOf_37_3 : List Ins := [(.ior, 0, 0, 0), (.istore_n 3, 0, 0, 0), (.iinc 4 (1), 0, 0, 0)]
theorem k_W_endsOf_37_3 : bok m_W_endsOf 37 b_W_endsOf_37_3 = true := by decide +kernel
theorem d_W_endsOf_11 : decode m_W_endsOf.2.1 11 = .ok (.if_icmp .ge (34), 3) := by decide +kernel
theorem d_W_endsOf_46 : decode m_W_endsOf.2.1 46 = .ok (.ireturn, 1) := by decide +kernel
theorem d_W_endsOf_18 : decode m_W_endsOf.2.1 18 = .ok (.invokestatic 98, 3) := by decide +kernel
theorem d_W_endsOf_21 : decode m_W_endsOf.2.1 21 = .ok (.ifCond .eq (15), 3) := by decide +kernel
theorem d_W_endsOf_42 : decode m_W_endsOf.2.1 42 = .ok (.goto (-37), 3) := by decide +kernel
theorem d_W_endsOf_33 : decode m_W_endsOf.2.1 33 = .ok (.goto (4), 3) := by decide +kernel
def lp_W_endsOf_5 (x1 : Int64)   : Nat → hs → Int32 → Int32 → Option (Int32 × hs)
  | 0, _, _, _ => none
  | n + 1, S, x3, x4 => (if (gI S 138 10) ≤ x4 then some (x3, S) else bd (f_X_isIn  S x1 x4) fun r2 S3 => (if r2 = 0 then lp_W_endsOf_5 x1 n S3 (x3 ||| (0 : Int32)) (x4 + (1 : Int32)) else ck (inb x4 40) (lp_W_endsOf_5 x1 n S3 (x3 ||| ((1 : Int32) <<< ((gI S3 140 (x4).toNatClampNeg) &&& 31))) (x4 + (1 : Int32)))))
def f_W_endsOf  (S : hs) (x1 : Int64) : Option (Int32 × hs) := lp_W_endsOf_5 x1 1000 S (0 : Int32) (0 : Int32)
theorem lo_W_endsOf_5 (w : Wd) (d : Nat) (c : cx) {n0 z0 : Nat} {z : Int32 × hs}   (x1 : Int64)    :
    ∀ (n : Nat) (S : hs) (x3 : Int32) (x4 : Int32), lp_W_endsOf_5 x1 n S x3 x4 = some z → J w (d + 2) m_W_endsOf (n0, z0, some (.int z.1), mk c z.2) 5 [some (.ref 138), some (.long x1), none, some (.int x3), some (.int x4)] [] (mk c S) := by
  intro n
  induction n with
  | zero => intro S x3 x4 H; cases H
  | succ n ih =>
    intro S x3 x4 H
    rw [lp_W_endsOf_5] at H
    refine J.run b_W_endsOf_5_3 k_W_endsOf_5_3 rfl (And.intro (okO_st (S := S) rfl) (show J w (d + 2) m_W_endsOf (n0, z0, some (.int z.1), mk c z.2) 11 [some (.ref 138), some (.long x1), none, some (.int x3), some (.int x4)] [.int (gI S 138 10), .int x4] (mk c S) from ?_))
    refine J.cge (tgt := 45) d_W_endsOf_11 rfl (fun q1 => ?_) (fun q1 => ?_)
    · have H := ite_t H q1
      refine J.run b_W_endsOf_45_1 k_W_endsOf_45_1 rfl (show J w (d + 2) m_W_endsOf (n0, z0, some (.int z.1), mk c z.2) 46 [some (.ref 138), some (.long x1), none, some (.int x3), some (.int x4)] [.int x3] (mk c S) from ?_)
      obtain rfl := some_e H
      exact J.iret d_W_endsOf_46 rfl rfl
    · have H := ite_f H q1
      refine J.run b_W_endsOf_14_3 k_W_endsOf_14_3 rfl (show J w (d + 2) m_W_endsOf (n0, z0, some (.int z.1), mk c z.2) 18 [some (.ref 138), some (.long x1), none, some (.int x3), some (.int x4)] [.int x4, .long x1, .int x3] (mk c S) from ?_)
      obtain ⟨r2, S3, h4, H⟩ := bd_e H
      refine J.callSn (y := m_X_isIn) (av := [.long x1, .int x4]) (rest := [.int x3]) l_W_98 d_W_endsOf_18 (c_X_isIn w (d + 0) c  S x1 x4 h4) rfl (Nat.le_of_ble_eq_true rfl) ⟨Nat.le_refl _, Nat.le_refl _⟩ (show J w (d + 2) m_W_endsOf (n0, z0, some (.int z.1), mk c z.2) 21 [some (.ref 138), some (.long x1), none, some (.int x3), some (.int x4)] [.int r2, .int x3] (mk c S3) from ?_)
      refine J.zeq (tgt := 36) d_W_endsOf_21 rfl (fun q5 => ?_) (fun q5 => ?_)
      · have H := ite_t H q5
        refine J.run b_W_endsOf_36_4 k_W_endsOf_36_4 rfl (show J w (d + 2) m_W_endsOf (n0, z0, some (.int z.1), mk c z.2) 42 [some (.ref 138), some (.long x1), none, some (.int (x3 ||| (0 : Int32))), some (.int (x4 + (1 : Int32)))] [] (mk c S3) from ?_)
        refine J.goto (tgt := 5) d_W_endsOf_42 rfl ?_
        refine J.mask [true, true, false, true, true] ?_
        exact ih S3 (x3 ||| (0 : Int32)) (x4 + (1 : Int32)) H
      · have H := ite_f H q5
        obtain ⟨g6, H⟩ := ck_e H
        refine J.run b_W_endsOf_24_6 k_W_endsOf_24_6 rfl (And.intro (okO_st (S := S3) rfl) (And.intro (okA_st (S := S3) (n := 40) rfl g6) (show J w (d + 2) m_W_endsOf (n0, z0, some (.int z.1), mk c z.2) 33 [some (.ref 138), some (.long x1), none, some (.int x3), some (.int x4)] [.int ((1 : Int32) <<< ((gI S3 140 (x4).toNatClampNeg) &&& 31)), .int x3] (mk c S3) from ?_)))
        refine J.goto (tgt := 37) d_W_endsOf_33 rfl ?_
        refine J.run b_W_endsOf_37_3 k_W_endsOf_37_3 rfl (show J w (d + 2) m_W_endsOf (n0, z0, some (.int z.1), mk c z.2) 42 [some (.ref 138), some (.long x1), none, some (.int (x3 ||| ((1 : Int32) <<< ((gI S3 140 (x4).toNatClampNeg) &&& 31)))), some (.int (x4 + (1 : Int32)))] [] (mk c S3) from ?_)
        refine J.goto (tgt := 5) d_W_endsOf_42 rfl ?_
        refine J.mask [true, true, false, true, true] ?_
        exact ih S3 (x3 ||| ((1 : Int32) <<< ((gI S3 140 (x4).toNatClampNeg) &&& 31))) (x4 + (1 : Int32)) H
theorem c_W_endsOf (w : Wd) (d : Nat) (c : cx)   (S : hs) (x1 : Int64)  {z : Int32 × hs} (H : f_W_endsOf S x1 = some z) : Cl w (d + 2) m_W_endsOf [.ref 138, .long x1] (mk c S) (some (.int z.1)) (mk c z.2) := by
  refine Cl.of (Nat.le_refl _) (Nat.le_refl _) (by decide +kernel) (Nat.le_of_ble_eq_true rfl) ?_
  unfold f_W_endsOf at H
  generalize hN (mk c S) = n0
  generalize hZ (mk c S) = z0
  show J w (d + 2) m_W_endsOf (n0, z0, some (.int z.1), mk c z.2) 0 [some (.ref 138), some (.long x1), none, none, none] [] (mk c S)
  refine J.run b_W_endsOf_0_4 k_W_endsOf_0_4 rfl (show J w (d + 2) m_W_endsOf (n0, z0, some (.int z.1), mk c z.2) 5 [some (.ref 138), some (.long x1), none, some (.int (0 : Int32)), some (.int (0 : Int32))] [] (mk c S) from ?_)
  refine J.mask [true, true, false, true, true] ?_
  refine lo_W_endsOf_5 w d c x1  1000 S (0 : Int32) (0 : Int32) H
def b_W_crossingsFrom_0_5 : List Ins := [(.aload_n 0, 0, 0, 0), (.aload_n 0, 0, 0, 0), (.iload_n 1, 0, 0, 0), (.aload_n 0, 0, 0, 0), (.getfield 39, 4, 8, 1)]
theorem k_W_crossingsFrom_0_5 : bok m_W_crossingsFrom 0 b_W_crossingsFrom_0_5 = true := by decide +kernel
theorem d_W_crossingsFrom_7 : decode m_W_crossingsFrom.2.1 7 = .ok (.invokevirtual 119, 3) := by decide +kernel
theorem d_W_crossingsFrom_10 : decode m_W_crossingsFrom.2.1 10 = .ok (.invokevirtual 123, 3) := by decide +kernel
theorem d_W_crossingsFrom_13 : decode m_W_crossingsFrom.2.1 13 = .ok (.ireturn, 1) := by decide +kernel
def f_W_crossingsFrom  (S : hs) (x1 : Int32) : Option (Int32 × hs) := bd (f_W_coursesFrom  S x1 (gJ S 138 8)) fun r1 S2 => bd (f_W_endsOf  S2 r1) fun r4 S5 => some (r4, S5)
theorem c_W_crossingsFrom (w : Wd) (d : Nat) (c : cx)   (S : hs) (x1 : Int32)  {z : Int32 × hs} (H : f_W_crossingsFrom S x1 = some z) : Cl w (d + 4) m_W_crossingsFrom [.ref 138, .int x1] (mk c S) (some (.int z.1)) (mk c z.2) := by
  refine Cl.of (Nat.le_refl _) (Nat.le_refl _) (by decide +kernel) (Nat.le_of_ble_eq_true rfl) ?_
  unfold f_W_crossingsFrom at H
  generalize hN (mk c S) = n0
  generalize hZ (mk c S) = z0
  show J w (d + 4) m_W_crossingsFrom (n0, z0, some (.int z.1), mk c z.2) 0 [some (.ref 138), some (.int x1)] [] (mk c S)
  refine J.run b_W_crossingsFrom_0_5 k_W_crossingsFrom_0_5 rfl (And.intro (okO_st (S := S) rfl) (show J w (d + 4) m_W_crossingsFrom (n0, z0, some (.int z.1), mk c z.2) 7 [some (.ref 138), some (.int x1)] [.long (gJ S 138 8), .int x1, .ref 138, .ref 138] (mk c S) from ?_))
  obtain ⟨r1, S2, h3, H⟩ := bd_e H
  refine J.callV (y := m_W_coursesFrom) (av := [.int x1, .long (gJ S 138 8)]) (rest := [.ref 138]) (q := 138) l_W_119 d_W_crossingsFrom_7 (isC_st rfl rfl) (c_W_coursesFrom w (d + 0) c  S x1 (gJ S 138 8) h3) rfl (Nat.le_of_ble_eq_true rfl) ⟨Nat.le_refl _, Nat.le_refl _⟩ (show J w (d + 4) m_W_crossingsFrom (n0, z0, some (.int z.1), mk c z.2) 10 [some (.ref 138), some (.int x1)] [.long r1, .ref 138] (mk c S2) from ?_)
  obtain ⟨r4, S5, h6, H⟩ := bd_e H
  refine J.callV (y := m_W_endsOf) (av := [.long r1]) (rest := []) (q := 138) l_W_123 d_W_crossingsFrom_10 (isC_st rfl rfl) (c_W_endsOf w (d + 1) c  S2 r1 h6) rfl (Nat.le_of_ble_eq_true rfl) ⟨Nat.le_refl _, Nat.le_refl _⟩ (show J w (d + 4) m_W_crossingsFrom (n0, z0, some (.int z.1), mk c z.2) 13 [some (.ref 138), some (.int x1)] [.int r4] (mk c S5) from ?_)
  obtain rfl := some_e H
  exact J.iret d_W_crossingsFrom_13 rfl rfl
def b_It_bitCount_0_41 : List Ins := [(.iload_n 0, 0, 0, 0), (.iload_n 0, 0, 0, 0), (.iconst (1), 0, 0, 0), (.iushr, 0, 0, 0), (.ldc_w 265, 0, 1431655765, 0), (.iand, 0, 0, 0), (.isub, 0, 0, 0), (.istore_n 0, 0, 0, 0), (.iload_n 0, 0, 0, 0), (.ldc_w 266, 0, 858993459, 0), (.iand, 0, 0, 0), (.iload_n 0, 0, 0, 0), (.iconst (2), 0, 0, 0), (.iushr, 0, 0, 0), (.ldc_w 266, 0, 858993459, 0), (.iand, 0, 0, 0), (.iadd, 0, 0, 0), (.istore_n 0, 0, 0, 0), (.iload_n 0, 0, 0, 0), (.iload_n 0, 0, 0, 0), (.iconst (4), 0, 0, 0), (.iushr, 0, 0, 0), (.iadd, 0, 0, 0), (.ldc_w 267, 0, 252645135, 0), (.iand, 0, 0, 0), (.istore_n 0, 0, 0, 0), (.iload_n 0, 0, 0, 0), (.iload_n 0, 0, 0, 0), (.bipush (8), 0, 0, 0), (.iushr, 0, 0, 0), (.iadd, 0, 0, 0), (.istore_n 0, 0, 0, 0), (.iload_n 0, 0, 0, 0), (.iload_n 0, 0, 0, 0), (.bipush (16), 0, 0, 0), (.iushr, 0, 0, 0), (.iadd, 0, 0, 0), (.istore_n 0, 0, 0, 0), (.iload_n 0, 0, 0, 0), (.bipush (63), 0, 0, 0), (.iand, 0, 0, 0)]
theorem k_It_bitCount_0_41 : bok m_It_bitCount 0 b_It_bitCount_0_41 = true := by decide +kernel
theorem d_It_bitCount_52 : decode m_It_bitCount.2.1 52 = .ok (.ireturn, 1) := by decide +kernel
def f_It_bitCount  (S : hs) (x0 : Int32) : Option (Int32 × hs) := some (((((((((x0 - ((ushr x0 (1 : Int32)) &&& (1431655765 : Int32))) &&& (858993459 : Int32)) + ((ushr (x0 - ((ushr x0 (1 : Int32)) &&& (1431655765 : Int32))) (2 : Int32)) &&& (858993459 : Int32))) + (ushr (((x0 - ((ushr x0 (1 : Int32)) &&& (1431655765 : Int32))) &&& (858993459 : Int32)) + ((ushr (x0 - ((ushr x0 (1 : Int32)) &&& (1431655765 : Int32))) (2 : Int32)) &&& (858993459 : Int32))) (4 : Int32))) &&& (252645135 : Int32)) + (ushr (((((x0 - ((ushr x0 (1 : Int32)) &&& (1431655765 : Int32))) &&& (858993459 : Int32)) + ((ushr (x0 - ((ushr x0 (1 : Int32)) &&& (1431655765 : Int32))) (2 : Int32)) &&& (858993459 : Int32))) + (ushr (((x0 - ((ushr x0 (1 : Int32)) &&& (1431655765 : Int32))) &&& (858993459 : Int32)) + ((ushr (x0 - ((ushr x0 (1 : Int32)) &&& (1431655765 : Int32))) (2 : Int32)) &&& (858993459 : Int32))) (4 : Int32))) &&& (252645135 : Int32)) (8 : Int32))) + (ushr ((((((x0 - ((ushr x0 (1 : Int32)) &&& (1431655765 : Int32))) &&& (858993459 : Int32)) + ((ushr (x0 - ((ushr x0 (1 : Int32)) &&& (1431655765 : Int32))) (2 : Int32)) &&& (858993459 : Int32))) + (ushr (((x0 - ((ushr x0 (1 : Int32)) &&& (1431655765 : Int32))) &&& (858993459 : Int32)) + ((ushr (x0 - ((ushr x0 (1 : Int32)) &&& (1431655765 : Int32))) (2 : Int32)) &&& (858993459 : Int32))) (4 : Int32))) &&& (252645135 : Int32)) + (ushr (((((x0 - ((ushr x0 (1 : Int32)) &&& (1431655765 : Int32))) &&& (858993459 : Int32)) + ((ushr (x0 - ((ushr x0 (1 : Int32)) &&& (1431655765 : Int32))) (2 : Int32)) &&& (858993459 : Int32))) + (ushr (((x0 - ((ushr x0 (1 : Int32)) &&& (1431655765 : Int32))) &&& (858993459 : Int32)) + ((ushr (x0 - ((ushr x0 (1 : Int32)) &&& (1431655765 : Int32))) (2 : Int32)) &&& (858993459 : Int32))) (4 : Int32))) &&& (252645135 : Int32)) (8 : Int32))) (16 : Int32))) &&& (63 : Int32)), S)
theorem c_It_bitCount (w : Wd) (d : Nat) (c : cx)   (S : hs) (x0 : Int32)  {z : Int32 × hs} (H : f_It_bitCount S x0 = some z) : Cl w (d + 1) m_It_bitCount [.int x0] (mk c S) (some (.int z.1)) (mk c z.2) := by
  refine Cl.of (Nat.le_refl _) (Nat.le_refl _) (by decide +kernel) (Nat.le_of_ble_eq_true rfl) ?_
  unfold f_It_bitCount at H
  generalize hN (mk c S) = n0
  generalize hZ (mk c S) = z0
  show J w (d + 1) m_It_bitCount (n0, z0, some (.int z.1), mk c z.2) 0 [some (.int x0)] [] (mk c S)
  refine J.run b_It_bitCount_0_41 k_It_bitCount_0_41 rfl (show J w (d + 1) m_It_bitCount (n0, z0, some (.int z.1), mk c z.2) 52 [some (.int (((((((x0 - ((ushr x0 (1 : Int32)) &&& (1431655765 : Int32))) &&& (858993459 : Int32)) + ((ushr (x0 - ((ushr x0 (1 : Int32)) &&& (1431655765 : Int32))) (2 : Int32)) &&& (858993459 : Int32))) + (ushr (((x0 - ((ushr x0 (1 : Int32)) &&& (1431655765 : Int32))) &&& (858993459 : Int32)) + ((ushr (x0 - ((ushr x0 (1 : Int32)) &&& (1431655765 : Int32))) (2 : Int32)) &&& (858993459 : Int32))) (4 : Int32))) &&& (252645135 : Int32)) + (ushr (((((x0 - ((ushr x0 (1 : Int32)) &&& (1431655765 : Int32))) &&& (858993459 : Int32)) + ((ushr (x0 - ((ushr x0 (1 : Int32)) &&& (1431655765 : Int32))) (2 : Int32)) &&& (858993459 : Int32))) + (ushr (((x0 - ((ushr x0 (1 : Int32)) &&& (1431655765 : Int32))) &&& (858993459 : Int32)) + ((ushr (x0 - ((ushr x0 (1 : Int32)) &&& (1431655765 : Int32))) (2 : Int32)) &&& (858993459 : Int32))) (4 : Int32))) &&& (252645135 : Int32)) (8 : Int32))) + (ushr ((((((x0 - ((ushr x0 (1 : Int32)) &&& (1431655765 : Int32))) &&& (858993459 : Int32)) + ((ushr (x0 - ((ushr x0 (1 : Int32)) &&& (1431655765 : Int32))) (2 : Int32)) &&& (858993459 : Int32))) + (ushr (((x0 - ((ushr x0 (1 : Int32)) &&& (1431655765 : Int32))) &&& (858993459 : Int32)) + ((ushr (x0 - ((ushr x0 (1 : Int32)) &&& (1431655765 : Int32))) (2 : Int32)) &&& (858993459 : Int32))) (4 : Int32))) &&& (252645135 : Int32)) + (ushr (((((x0 - ((ushr x0 (1 : Int32)) &&& (1431655765 : Int32))) &&& (858993459 : Int32)) + ((ushr (x0 - ((ushr x0 (1 : Int32)) &&& (1431655765 : Int32))) (2 : Int32)) &&& (858993459 : Int32))) + (ushr (((x0 - ((ushr x0 (1 : Int32)) &&& (1431655765 : Int32))) &&& (858993459 : Int32)) + ((ushr (x0 - ((ushr x0 (1 : Int32)) &&& (1431655765 : Int32))) (2 : Int32)) &&& (858993459 : Int32))) (4 : Int32))) &&& (252645135 : Int32)) (8 : Int32))) (16 : Int32))))] [.int ((((((((x0 - ((ushr x0 (1 : Int32)) &&& (1431655765 : Int32))) &&& (858993459 : Int32)) + ((ushr (x0 - ((ushr x0 (1 : Int32)) &&& (1431655765 : Int32))) (2 : Int32)) &&& (858993459 : Int32))) + (ushr (((x0 - ((ushr x0 (1 : Int32)) &&& (1431655765 : Int32))) &&& (858993459 : Int32)) + ((ushr (x0 - ((ushr x0 (1 : Int32)) &&& (1431655765 : Int32))) (2 : Int32)) &&& (858993459 : Int32))) (4 : Int32))) &&& (252645135 : Int32)) + (ushr (((((x0 - ((ushr x0 (1 : Int32)) &&& (1431655765 : Int32))) &&& (858993459 : Int32)) + ((ushr (x0 - ((ushr x0 (1 : Int32)) &&& (1431655765 : Int32))) (2 : Int32)) &&& (858993459 : Int32))) + (ushr (((x0 - ((ushr x0 (1 : Int32)) &&& (1431655765 : Int32))) &&& (858993459 : Int32)) + ((ushr (x0 - ((ushr x0 (1 : Int32)) &&& (1431655765 : Int32))) (2 : Int32)) &&& (858993459 : Int32))) (4 : Int32))) &&& (252645135 : Int32)) (8 : Int32))) + (ushr ((((((x0 - ((ushr x0 (1 : Int32)) &&& (1431655765 : Int32))) &&& (858993459 : Int32)) + ((ushr (x0 - ((ushr x0 (1 : Int32)) &&& (1431655765 : Int32))) (2 : Int32)) &&& (858993459 : Int32))) + (ushr (((x0 - ((ushr x0 (1 : Int32)) &&& (1431655765 : Int32))) &&& (858993459 : Int32)) + ((ushr (x0 - ((ushr x0 (1 : Int32)) &&& (1431655765 : Int32))) (2 : Int32)) &&& (858993459 : Int32))) (4 : Int32))) &&& (252645135 : Int32)) + (ushr (((((x0 - ((ushr x0 (1 : Int32)) &&& (1431655765 : Int32))) &&& (858993459 : Int32)) + ((ushr (x0 - ((ushr x0 (1 : Int32)) &&& (1431655765 : Int32))) (2 : Int32)) &&& (858993459 : Int32))) + (ushr (((x0 - ((ushr x0 (1 : Int32)) &&& (1431655765 : Int32))) &&& (858993459 : Int32)) + ((ushr (x0 - ((ushr x0 (1 : Int32)) &&& (1431655765 : Int32))) (2 : Int32)) &&& (858993459 : Int32))) (4 : Int32))) &&& (252645135 : Int32)) (8 : Int32))) (16 : Int32))) &&& (63 : Int32))] (mk c S) from ?_)
  obtain rfl := some_e H
  exact J.iret d_It_bitCount_52 rfl rfl
def b_W_countPairs_0_4 : List Ins := [(.iconst (0), 0, 0, 0), (.istore_n 3, 0, 0, 0), (.iconst (0), 0, 0, 0), (.istore 4, 0, 0, 0)]
theorem k_W_countPairs_0_4 : bok m_W_countPairs 0 b_W_countPairs_0_4 = true := by decide +kernel
def b_W_countPairs_5_3 : List Ins := [(.iload 4, 0, 0, 0), (.aload_n 0, 0, 0, 0), (.getfield 58, 4, 10, 0)]
theorem k_W_countPairs_5_3 : bok m_W_countPairs 5 b_W_countPairs_5_3 = true := by decide +kernel
def b_W_countPairs_46_1 : List Ins := [(.iload_n 3, 0, 0, 0)]
theorem k_W_countPairs_46_1 : bok m_W_countPairs 46 b_W_countPairs_46_1 = true := by decide +kernel
def b_W_countPairs_14_2 : List Ins := [(.lload_n 1, 0, 0, 0), (.iload 4, 0, 0, 0)]
theorem k_W_countPairs_14_2 : bok m_W_countPairs 14 b_W_countPairs_14_2 = true := by decide +kernel
def b_W_countPairs_40_1 : List Ins := [(.iinc 4 (1), 0, 0, 0)]
theorem k_W_countPairs_40_1 : bok m_W_countPairs 40 b_W_countPairs_40_1 = true := by decide +kernel
def b_W_countPairs_23_5 : List Ins := [(.iload_n 3, 0, 0, 0), (.aload_n 0, 0, 0, 0), (.aload_n 0, 0, 0, 0), (.iload 4, 0, 0, 0), (.lload_n 1, 0, 0, 0)]
theorem k_W_countPairs_23_5 : bok m_W_countPairs 23 b_W_countPairs_23_5 = true := by decide +kernel
def b_W_countPairs_38_3 : List Ins := [(.iadd, 0, 0, 0), (.istore_n 3, 0, 0, 0), (.iinc 4 (1), 0, 0, 0)]
theorem k_W_countPairs_38_3 : bok m_W_countPairs 38 b_W_countPairs_38_3 = true := by decide +kernel
theorem d_W_countPairs_11 : decode m_W_countPairs.2.1 11 = .ok (.if_icmp .ge (35), 3) := by decide +kernel
theorem d_W_countPairs_47 : decode m_W_countPairs.2.1 47 = .ok (.ireturn, 1) := by decide +kernel
theorem d_W_countPairs_17 : decode m_W_countPairs.2.1 17 = .ok (.invokestatic 98, 3) := by decide +kernel
theorem d_W_countPairs_20 : decode m_W_countPairs.2.1 20 = .ok (.ifCond .eq (20), 3) := by decide +kernel
theorem d_W_countPairs_43 : decode m_W_countPairs.2.1 43 = .ok (.goto (-38), 3) := by decide +kernel
theorem d_W_countPairs_29 : decode m_W_countPairs.2.1 29 = .ok (.invokevirtual 119, 3) := by decide +kernel
theorem d_W_countPairs_32 : decode m_W_countPairs.2.1 32 = .ok (.invokevirtual 123, 3) := by decide +kernel
theorem d_W_countPairs_35 : decode m_W_countPairs.2.1 35 = .ok (.invokestatic 126, 3) := by decide +kernel
def lp_W_countPairs_5 (x1 : Int64)   : Nat → hs → Int32 → Int32 → Option (Int32 × hs)
  | 0, _, _, _ => none
  | n + 1, S, x3, x4 => (if (gI S 138 10) ≤ x4 then some (x3, S) else bd (f_X_isIn  S x1 x4) fun r2 S3 => (if r2 = 0 then lp_W_countPairs_5 x1 n S3 x3 (x4 + (1 : Int32)) else bd (f_W_coursesFrom  S3 x4 x1) fun r6 S7 => bd (f_W_endsOf  S7 r6) fun r9 S10 => bd (f_It_bitCount  S10 r9) fun r12 S13 => lp_W_countPairs_5 x1 n S13 (x3 + r12) (x4 + (1 : Int32))))
def f_W_countPairs  (S : hs) (x1 : Int64) : Option (Int32 × hs) := lp_W_countPairs_5 x1 1000 S (0 : Int32) (0 : Int32)
theorem lo_W_countPairs_5 (w : Wd) (d : Nat) (c : cx) {n0 z0 : Nat} {z : Int32 × hs}   (x1 : Int64)    :
    ∀ (n : Nat) (S : hs) (x3 : Int32) (x4 : Int32), lp_W_countPairs_5 x1 n S x3 x4 = some z → J w (d + 4) m_W_countPairs (n0, z0, some (.int z.1), mk c z.2) 5 [some (.ref 138), some (.long x1), none, some (.int x3), some (.int x4)] [] (mk c S) := by
  intro n
  induction n with
  | zero => intro S x3 x4 H; cases H
  | succ n ih =>
    intro S x3 x4 H
    rw [lp_W_countPairs_5] at H
    refine J.run b_W_countPairs_5_3 k_W_countPairs_5_3 rfl (And.intro (okO_st (S := S) rfl) (show J w (d + 4) m_W_countPairs (n0, z0, some (.int z.1), mk c z.2) 11 [some (.ref 138), some (.long x1), none, some (.int x3), some (.int x4)] [.int (gI S 138 10), .int x4] (mk c S) from ?_))
    refine J.cge (tgt := 46) d_W_countPairs_11 rfl (fun q1 => ?_) (fun q1 => ?_)
    · have H := ite_t H q1
      refine J.run b_W_countPairs_46_1 k_W_countPairs_46_1 rfl (show J w (d + 4) m_W_countPairs (n0, z0, some (.int z.1), mk c z.2) 47 [some (.ref 138), some (.long x1), none, some (.int x3), some (.int x4)] [.int x3] (mk c S) from ?_)
      obtain rfl := some_e H
      exact J.iret d_W_countPairs_47 rfl rfl
    · have H := ite_f H q1
      refine J.run b_W_countPairs_14_2 k_W_countPairs_14_2 rfl (show J w (d + 4) m_W_countPairs (n0, z0, some (.int z.1), mk c z.2) 17 [some (.ref 138), some (.long x1), none, some (.int x3), some (.int x4)] [.int x4, .long x1] (mk c S) from ?_)
      obtain ⟨r2, S3, h4, H⟩ := bd_e H
      refine J.callSn (y := m_X_isIn) (av := [.long x1, .int x4]) (rest := []) l_W_98 d_W_countPairs_17 (c_X_isIn w (d + 2) c  S x1 x4 h4) rfl (Nat.le_of_ble_eq_true rfl) ⟨Nat.le_refl _, Nat.le_refl _⟩ (show J w (d + 4) m_W_countPairs (n0, z0, some (.int z.1), mk c z.2) 20 [some (.ref 138), some (.long x1), none, some (.int x3), some (.int x4)] [.int r2] (mk c S3) from ?_)
      refine J.zeq (tgt := 40) d_W_countPairs_20 rfl (fun q5 => ?_) (fun q5 => ?_)
      · have H := ite_t H q5
        refine J.run b_W_countPairs_40_1 k_W_countPairs_40_1 rfl (show J w (d + 4) m_W_countPairs (n0, z0, some (.int z.1), mk c z.2) 43 [some (.ref 138), some (.long x1), none, some (.int x3), some (.int (x4 + (1 : Int32)))] [] (mk c S3) from ?_)
        refine J.goto (tgt := 5) d_W_countPairs_43 rfl ?_
        refine J.mask [true, true, false, true, true] ?_
        exact ih S3 x3 (x4 + (1 : Int32)) H
      · have H := ite_f H q5
        refine J.run b_W_countPairs_23_5 k_W_countPairs_23_5 rfl (show J w (d + 4) m_W_countPairs (n0, z0, some (.int z.1), mk c z.2) 29 [some (.ref 138), some (.long x1), none, some (.int x3), some (.int x4)] [.long x1, .int x4, .ref 138, .ref 138, .int x3] (mk c S3) from ?_)
        obtain ⟨r6, S7, h8, H⟩ := bd_e H
        refine J.callV (y := m_W_coursesFrom) (av := [.int x4, .long x1]) (rest := [.ref 138, .int x3]) (q := 138) l_W_119 d_W_countPairs_29 (isC_st rfl rfl) (c_W_coursesFrom w (d + 0) c  S3 x4 x1 h8) rfl (Nat.le_of_ble_eq_true rfl) ⟨Nat.le_refl _, Nat.le_refl _⟩ (show J w (d + 4) m_W_countPairs (n0, z0, some (.int z.1), mk c z.2) 32 [some (.ref 138), some (.long x1), none, some (.int x3), some (.int x4)] [.long r6, .ref 138, .int x3] (mk c S7) from ?_)
        obtain ⟨r9, S10, h11, H⟩ := bd_e H
        refine J.callV (y := m_W_endsOf) (av := [.long r6]) (rest := [.int x3]) (q := 138) l_W_123 d_W_countPairs_32 (isC_st rfl rfl) (c_W_endsOf w (d + 1) c  S7 r6 h11) rfl (Nat.le_of_ble_eq_true rfl) ⟨Nat.le_refl _, Nat.le_refl _⟩ (show J w (d + 4) m_W_countPairs (n0, z0, some (.int z.1), mk c z.2) 35 [some (.ref 138), some (.long x1), none, some (.int x3), some (.int x4)] [.int r9, .int x3] (mk c S10) from ?_)
        obtain ⟨r12, S13, h14, H⟩ := bd_e H
        refine J.callS (y := m_It_bitCount) (av := [.int r9]) (rest := [.int x3]) l_W_126 d_W_countPairs_35 (c_It_bitCount w (d + 2) c  S10 r9 h14) rfl (Nat.le_of_ble_eq_true rfl) ⟨Nat.le_refl _, Nat.le_refl _⟩ (show J w (d + 4) m_W_countPairs (n0, z0, some (.int z.1), mk c z.2) 38 [some (.ref 138), some (.long x1), none, some (.int x3), some (.int x4)] [.int r12, .int x3] (mk c S13) from ?_)
        refine J.run b_W_countPairs_38_3 k_W_countPairs_38_3 rfl (show J w (d + 4) m_W_countPairs (n0, z0, some (.int z.1), mk c z.2) 43 [some (.ref 138), some (.long x1), none, some (.int (x3 + r12)), some (.int (x4 + (1 : Int32)))] [] (mk c S13) from ?_)
        refine J.goto (tgt := 5) d_W_countPairs_43 rfl ?_
        refine J.mask [true, true, false, true, true] ?_
        exact ih S13 (x3 + r12) (x4 + (1 : Int32)) H
theorem c_W_countPairs (w : Wd) (d : Nat) (c : cx)   (S : hs) (x1 : Int64)  {z : Int32 × hs} (H : f_W_countPairs S x1 = some z) : Cl w (d + 4) m_W_countPairs [.ref 138, .long x1] (mk c S) (some (.int z.1)) (mk c z.2) := by
  refine Cl.of (Nat.le_refl _) (Nat.le_refl _) (by decide +kernel) (Nat.le_of_ble_eq_true rfl) ?_
  unfold f_W_countPairs at H
  generalize hN (mk c S) = n0
  generalize hZ (mk c S) = z0
  show J w (d + 4) m_W_countPairs (n0, z0, some (.int z.1), mk c z.2) 0 [some (.ref 138), some (.long x1), none, none, none] [] (mk c S)
  refine J.run b_W_countPairs_0_4 k_W_countPairs_0_4 rfl (show J w (d + 4) m_W_countPairs (n0, z0, some (.int z.1), mk c z.2) 5 [some (.ref 138), some (.long x1), none, some (.int (0 : Int32)), some (.int (0 : Int32))] [] (mk c S) from ?_)
  refine J.mask [true, true, false, true, true] ?_
  refine lo_W_countPairs_5 w d c x1  1000 S (0 : Int32) (0 : Int32) H
def b_W_crossingsNeverReached_0_4 : List Ins := [(.iconst (0), 0, 0, 0), (.istore_n 1, 0, 0, 0), (.iconst (0), 0, 0, 0), (.istore_n 2, 0, 0, 0)]
theorem k_W_crossingsNeverReached_0_4 : bok m_W_crossingsNeverReached 0 b_W_crossingsNeverReached_0_4 = true := by decide +kernel
def b_W_crossingsNeverReached_4_3 : List Ins := [(.iload_n 2, 0, 0, 0), (.aload_n 0, 0, 0, 0), (.getfield 58, 4, 10, 0)]
theorem k_W_crossingsNeverReached_4_3 : bok m_W_crossingsNeverReached 4 b_W_crossingsNeverReached_4_3 = true := by decide +kernel
def b_W_crossingsNeverReached_12_3 : List Ins := [(.aload_n 0, 0, 0, 0), (.getfield 39, 4, 8, 1), (.iload_n 2, 0, 0, 0)]
theorem k_W_crossingsNeverReached_12_3 : bok m_W_crossingsNeverReached 12 b_W_crossingsNeverReached_12_3 = true := by decide +kernel
def b_W_crossingsNeverReached_42_1 : List Ins := [(.iinc 2 (1), 0, 0, 0)]
theorem k_W_crossingsNeverReached_42_1 : bok m_W_crossingsNeverReached 42 b_W_crossingsNeverReached_42_1 = true := by decide +kernel
def b_W_crossingsNeverReached_23_3 : List Ins := [(.iload_n 1, 0, 0, 0), (.aload_n 0, 0, 0, 0), (.iload_n 2, 0, 0, 0)]
theorem k_W_crossingsNeverReached_23_3 : bok m_W_crossingsNeverReached 23 b_W_crossingsNeverReached_23_3 = true := by decide +kernel
def b_W_crossingsNeverReached_29_12 : List Ins := [(.iconst (1), 0, 0, 0), (.aload_n 0, 0, 0, 0), (.getfield 15, 4, 1, 2), (.iload_n 2, 0, 0, 0), (.iaload, 0, 0, 0), (.ishl, 0, 0, 0), (.iconst (-1), 0, 0, 0), (.ixor, 0, 0, 0), (.iand, 0, 0, 0), (.ior, 0, 0, 0), (.istore_n 1, 0, 0, 0), (.iinc 2 (1), 0, 0, 0)]
theorem k_W_crossingsNeverReached_29_12 : bok m_W_crossingsNeverReached 29 b_W_crossingsNeverReached_29_12 = true := by decide +kernel
def b_W_crossingsNeverReached_48_10 : List Ins := [(.iconst (1), 0, 0, 0), (.aload_n 0, 0, 0, 0), (.getfield 64, 4, 11, 0), (.ishl, 0, 0, 0), (.iconst (1), 0, 0, 0), (.isub, 0, 0, 0), (.iload_n 1, 0, 0, 0), (.iconst (-1), 0, 0, 0), (.ixor, 0, 0, 0), (.iand, 0, 0, 0)]
theorem k_W_crossingsNeverReached_48_10 : bok m_W_crossingsNeverReached 48 b_W_crossingsNeverReached_48_10 = true := by decide +kernel
theorem d_W_crossingsNeverReached_9 : decode m_W_crossingsNeverReached.2.1 9 = .ok (.if_icmp .ge (39), 3) := by decide +kernel
theorem d_W_crossingsNeverReached_17 : decode m_W_crossingsNeverReached.2.1 17 = .ok (.invokestatic 98, 3) := by decide +kernel
theorem d_W_crossingsNeverReached_20 : decode m_W_crossingsNeverReached.2.1 20 = .ok (.ifCond .eq (22), 3) := by decide +kernel
theorem d_W_crossingsNeverReached_45 : decode m_W_crossingsNeverReached.2.1 45 = .ok (.goto (-41), 3) := by decide +kernel
theorem d_W_crossingsNeverReached_26 : decode m_W_crossingsNeverReached.2.1 26 = .ok (.invokevirtual 131, 3) := by decide +kernel
theorem d_W_crossingsNeverReached_60 : decode m_W_crossingsNeverReached.2.1 60 = .ok (.ireturn, 1) := by decide +kernel
def lp_W_crossingsNeverReached_4   (K0 : hs → Int32 → Int32 → Option (Int32 × hs)) : Nat → hs → Int32 → Int32 → Option (Int32 × hs)
  | 0, _, _, _ => none
  | n + 1, S, x1, x2 => (if (gI S 138 10) ≤ x2 then K0 S x1 x2 else bd (f_X_isIn  S (gJ S 138 8) x2) fun r2 S3 => (if r2 = 0 then lp_W_crossingsNeverReached_4 K0 n S3 x1 (x2 + (1 : Int32)) else bd (f_W_crossingsFrom  S3 x2) fun r6 S7 => ck (inb x2 40) (lp_W_crossingsNeverReached_4 K0 n S7 (x1 ||| (r6 &&& (((1 : Int32) <<< ((gI S7 140 (x2).toNatClampNeg) &&& 31)) ^^^ (-1 : Int32)))) (x2 + (1 : Int32)))))
def f_W_crossingsNeverReached  (S : hs)  : Option (Int32 × hs) := lp_W_crossingsNeverReached_4 (fun (S10 : hs) (y11 : Int32) (y12 : Int32) => some (((((1 : Int32) <<< ((gI S10 138 11) &&& 31)) - (1 : Int32)) &&& (y11 ^^^ (-1 : Int32))), S10)) 1000 S (0 : Int32) (0 : Int32)
theorem lo_W_crossingsNeverReached_4 (w : Wd) (d : Nat) (c : cx) {n0 z0 : Nat} {z : Int32 × hs}  {K0 : hs → Int32 → Int32 → Option (Int32 × hs)}    (hK0 : ∀ (S : hs) (x1 : Int32) (x2 : Int32), K0 S x1 x2 = some z → J w (d + 5) m_W_crossingsNeverReached (n0, z0, some (.int z.1), mk c z.2) 48 [some (.ref 138), some (.int x1), none] [] (mk c S)) :
    ∀ (n : Nat) (S : hs) (x1 : Int32) (x2 : Int32), lp_W_crossingsNeverReached_4 K0 n S x1 x2 = some z → J w (d + 5) m_W_crossingsNeverReached (n0, z0, some (.int z.1), mk c z.2) 4 [some (.ref 138), some (.int x1), some (.int x2)] [] (mk c S) := by
  intro n
  induction n with
  | zero => intro S x1 x2 H; cases H
  | succ n ih =>
    intro S x1 x2 H
    rw [lp_W_crossingsNeverReached_4] at H
    refine J.run b_W_crossingsNeverReached_4_3 k_W_crossingsNeverReached_4_3 rfl (And.intro (okO_st (S := S) rfl) (show J w (d + 5) m_W_crossingsNeverReached (n0, z0, some (.int z.1), mk c z.2) 9 [some (.ref 138), some (.int x1), some (.int x2)] [.int (gI S 138 10), .int x2] (mk c S) from ?_))
    refine J.cge (tgt := 48) d_W_crossingsNeverReached_9 rfl (fun q1 => ?_) (fun q1 => ?_)
    · have H := ite_t H q1
      refine J.mask [true, true, false] ?_
      exact hK0 S x1 x2 H
    · have H := ite_f H q1
      refine J.run b_W_crossingsNeverReached_12_3 k_W_crossingsNeverReached_12_3 rfl (And.intro (okO_st (S := S) rfl) (show J w (d + 5) m_W_crossingsNeverReached (n0, z0, some (.int z.1), mk c z.2) 17 [some (.ref 138), some (.int x1), some (.int x2)] [.int x2, .long (gJ S 138 8)] (mk c S) from ?_))
      obtain ⟨r2, S3, h4, H⟩ := bd_e H
      refine J.callSn (y := m_X_isIn) (av := [.long (gJ S 138 8), .int x2]) (rest := []) l_W_98 d_W_crossingsNeverReached_17 (c_X_isIn w (d + 3) c  S (gJ S 138 8) x2 h4) rfl (Nat.le_of_ble_eq_true rfl) ⟨Nat.le_refl _, Nat.le_refl _⟩ (show J w (d + 5) m_W_crossingsNeverReached (n0, z0, some (.int z.1), mk c z.2) 20 [some (.ref 138), some (.int x1), some (.int x2)] [.int r2] (mk c S3) from ?_)
      refine J.zeq (tgt := 42) d_W_crossingsNeverReached_20 rfl (fun q5 => ?_) (fun q5 => ?_)
      · have H := ite_t H q5
        refine J.run b_W_crossingsNeverReached_42_1 k_W_crossingsNeverReached_42_1 rfl (show J w (d + 5) m_W_crossingsNeverReached (n0, z0, some (.int z.1), mk c z.2) 45 [some (.ref 138), some (.int x1), some (.int (x2 + (1 : Int32)))] [] (mk c S3) from ?_)
        refine J.goto (tgt := 4) d_W_crossingsNeverReached_45 rfl ?_
        refine J.mask [true, true, true] ?_
        exact ih S3 x1 (x2 + (1 : Int32)) H
      · have H := ite_f H q5
        refine J.run b_W_crossingsNeverReached_23_3 k_W_crossingsNeverReached_23_3 rfl (show J w (d + 5) m_W_crossingsNeverReached (n0, z0, some (.int z.1), mk c z.2) 26 [some (.ref 138), some (.int x1), some (.int x2)] [.int x2, .ref 138, .int x1] (mk c S3) from ?_)
        obtain ⟨r6, S7, h8, H⟩ := bd_e H
        refine J.callV (y := m_W_crossingsFrom) (av := [.int x2]) (rest := [.int x1]) (q := 138) l_W_131 d_W_crossingsNeverReached_26 (isC_st rfl rfl) (c_W_crossingsFrom w (d + 0) c  S3 x2 h8) rfl (Nat.le_of_ble_eq_true rfl) ⟨Nat.le_refl _, Nat.le_refl _⟩ (show J w (d + 5) m_W_crossingsNeverReached (n0, z0, some (.int z.1), mk c z.2) 29 [some (.ref 138), some (.int x1), some (.int x2)] [.int r6, .int x1] (mk c S7) from ?_)
        obtain ⟨g9, H⟩ := ck_e H
        refine J.run b_W_crossingsNeverReached_29_12 k_W_crossingsNeverReached_29_12 rfl (And.intro (okO_st (S := S7) rfl) (And.intro (okA_st (S := S7) (n := 40) rfl g9) (show J w (d + 5) m_W_crossingsNeverReached (n0, z0, some (.int z.1), mk c z.2) 45 [some (.ref 138), some (.int (x1 ||| (r6 &&& (((1 : Int32) <<< ((gI S7 140 (x2).toNatClampNeg) &&& 31)) ^^^ (-1 : Int32))))), some (.int (x2 + (1 : Int32)))] [] (mk c S7) from ?_)))
        refine J.goto (tgt := 4) d_W_crossingsNeverReached_45 rfl ?_
        refine J.mask [true, true, true] ?_
        exact ih S7 (x1 ||| (r6 &&& (((1 : Int32) <<< ((gI S7 140 (x2).toNatClampNeg) &&& 31)) ^^^ (-1 : Int32)))) (x2 + (1 : Int32)) H
theorem c_W_crossingsNeverReached (w : Wd) (d : Nat) (c : cx)   (S : hs)   {z : Int32 × hs} (H : f_W_crossingsNeverReached S = some z) : Cl w (d + 5) m_W_crossingsNeverReached [.ref 138] (mk c S) (some (.int z.1)) (mk c z.2) := by
  refine Cl.of (Nat.le_refl _) (Nat.le_refl _) (by decide +kernel) (Nat.le_of_ble_eq_true rfl) ?_
  unfold f_W_crossingsNeverReached at H
  generalize hN (mk c S) = n0
  generalize hZ (mk c S) = z0
  show J w (d + 5) m_W_crossingsNeverReached (n0, z0, some (.int z.1), mk c z.2) 0 [some (.ref 138), none, none] [] (mk c S)
  refine J.run b_W_crossingsNeverReached_0_4 k_W_crossingsNeverReached_0_4 rfl (show J w (d + 5) m_W_crossingsNeverReached (n0, z0, some (.int z.1), mk c z.2) 4 [some (.ref 138), some (.int (0 : Int32)), some (.int (0 : Int32))] [] (mk c S) from ?_)
  refine J.mask [true, true, true] ?_
  refine lo_W_crossingsNeverReached_4 w d c  ?_ 1000 S (0 : Int32) (0 : Int32) H
  · intro S10 y11 y12 H
    try dsimp only at H
    refine J.run b_W_crossingsNeverReached_48_10 k_W_crossingsNeverReached_48_10 rfl (And.intro (okO_st (S := S10) rfl) (show J w (d + 5) m_W_crossingsNeverReached (n0, z0, some (.int z.1), mk c z.2) 60 [some (.ref 138), some (.int y11), none] [.int ((((1 : Int32) <<< ((gI S10 138 11) &&& 31)) - (1 : Int32)) &&& (y11 ^^^ (-1 : Int32)))] (mk c S10) from ?_))
    obtain rfl := some_e H
    exact J.iret d_W_crossingsNeverReached_60 rfl rfl
def b_W_isWithLesser_0_2 : List Ins := [(.iconst (0), 0, 0, 0), (.istore_n 2, 0, 0, 0)]
theorem k_W_isWithLesser_0_2 : bok m_W_isWithLesser 0 b_W_isWithLesser_0_2 = true := by decide +kernel
def b_W_isWithLesser_2_2 : List Ins := [(.iload_n 2, 0, 0, 0), (.iload_n 1, 0, 0, 0)]
theorem k_W_isWithLesser_2_2 : bok m_W_isWithLesser 2 b_W_isWithLesser_2_2 = true := by decide +kernel
def b_W_isWithLesser_49_1 : List Ins := [(.iconst (0), 0, 0, 0)]
theorem k_W_isWithLesser_49_1 : bok m_W_isWithLesser 49 b_W_isWithLesser_49_1 = true := by decide +kernel
def b_W_isWithLesser_7_3 : List Ins := [(.iload_n 2, 0, 0, 0), (.aload_n 0, 0, 0, 0), (.getfield 58, 4, 10, 0)]
theorem k_W_isWithLesser_7_3 : bok m_W_isWithLesser 7 b_W_isWithLesser_7_3 = true := by decide +kernel
def b_W_isWithLesser_15_5 : List Ins := [(.aload_n 0, 0, 0, 0), (.getfield 25, 4, 4, 2), (.iload_n 1, 0, 0, 0), (.laload, 0, 0, 0), (.iload_n 2, 0, 0, 0)]
theorem k_W_isWithLesser_15_5 : bok m_W_isWithLesser 15 b_W_isWithLesser_15_5 = true := by decide +kernel
def b_W_isWithLesser_43_1 : List Ins := [(.iinc 2 (1), 0, 0, 0)]
theorem k_W_isWithLesser_43_1 : bok m_W_isWithLesser 43 b_W_isWithLesser_43_1 = true := by decide +kernel
def b_W_isWithLesser_28_5 : List Ins := [(.aload_n 0, 0, 0, 0), (.getfield 25, 4, 4, 2), (.iload_n 2, 0, 0, 0), (.laload, 0, 0, 0), (.iload_n 1, 0, 0, 0)]
theorem k_W_isWithLesser_28_5 : bok m_W_isWithLesser 28 b_W_isWithLesser_28_5 = true := by decide +kernel
def b_W_isWithLesser_41_1 : List Ins := [(.iconst (1), 0, 0, 0)]
theorem k_W_isWithLesser_41_1 : bok m_W_isWithLesser 41 b_W_isWithLesser_41_1 = true := by decide +kernel
theorem d_W_isWithLesser_4 : decode m_W_isWithLesser.2.1 4 = .ok (.if_icmp .ge (45), 3) := by decide +kernel
theorem d_W_isWithLesser_50 : decode m_W_isWithLesser.2.1 50 = .ok (.ireturn, 1) := by decide +kernel
theorem d_W_isWithLesser_12 : decode m_W_isWithLesser.2.1 12 = .ok (.if_icmp .ge (37), 3) := by decide +kernel
theorem d_W_isWithLesser_22 : decode m_W_isWithLesser.2.1 22 = .ok (.invokestatic 98, 3) := by decide +kernel
theorem d_W_isWithLesser_25 : decode m_W_isWithLesser.2.1 25 = .ok (.ifCond .eq (18), 3) := by decide +kernel
theorem d_W_isWithLesser_46 : decode m_W_isWithLesser.2.1 46 = .ok (.goto (-44), 3) := by decide +kernel
theorem d_W_isWithLesser_35 : decode m_W_isWithLesser.2.1 35 = .ok (.invokestatic 98, 3) := by decide +kernel
theorem d_W_isWithLesser_38 : decode m_W_isWithLesser.2.1 38 = .ok (.ifCond .eq (5), 3) := by decide +kernel
theorem d_W_isWithLesser_42 : decode m_W_isWithLesser.2.1 42 = .ok (.ireturn, 1) := by decide +kernel
def lp_W_isWithLesser_2 (x1 : Int32)   : Nat → hs → Int32 → Option (Int32 × hs)
  | 0, _, _ => none
  | n + 1, S, x2 => (if x1 ≤ x2 then some ((0 : Int32), S) else (if (gI S 138 10) ≤ x2 then some ((0 : Int32), S) else ck (inb x1 40) (bd (f_X_isIn  S (gJ S 143 (x1).toNatClampNeg) x2) fun r4 S5 => (if r4 = 0 then lp_W_isWithLesser_2 x1 n S5 (x2 + (1 : Int32)) else ck (inb x2 40) (bd (f_X_isIn  S5 (gJ S5 143 (x2).toNatClampNeg) x1) fun r9 S10 => (if r9 = 0 then lp_W_isWithLesser_2 x1 n S10 (x2 + (1 : Int32)) else some ((1 : Int32), S10)))))))
def f_W_isWithLesser  (S : hs) (x1 : Int32) : Option (Int32 × hs) := lp_W_isWithLesser_2 x1 1000 S (0 : Int32)
theorem lo_W_isWithLesser_2 (w : Wd) (d : Nat) (c : cx) {n0 z0 : Nat} {z : Int32 × hs}   (x1 : Int32)    :
    ∀ (n : Nat) (S : hs) (x2 : Int32), lp_W_isWithLesser_2 x1 n S x2 = some z → J w (d + 2) m_W_isWithLesser (n0, z0, some (.int z.1), mk c z.2) 2 [some (.ref 138), some (.int x1), some (.int x2)] [] (mk c S) := by
  intro n
  induction n with
  | zero => intro S x2 H; cases H
  | succ n ih =>
    intro S x2 H
    rw [lp_W_isWithLesser_2] at H
    refine J.run b_W_isWithLesser_2_2 k_W_isWithLesser_2_2 rfl (show J w (d + 2) m_W_isWithLesser (n0, z0, some (.int z.1), mk c z.2) 4 [some (.ref 138), some (.int x1), some (.int x2)] [.int x1, .int x2] (mk c S) from ?_)
    refine J.cge (tgt := 49) d_W_isWithLesser_4 rfl (fun q1 => ?_) (fun q1 => ?_)
    · have H := ite_t H q1
      refine J.run b_W_isWithLesser_49_1 k_W_isWithLesser_49_1 rfl (show J w (d + 2) m_W_isWithLesser (n0, z0, some (.int z.1), mk c z.2) 50 [some (.ref 138), some (.int x1), some (.int x2)] [.int (0 : Int32)] (mk c S) from ?_)
      obtain rfl := some_e H
      exact J.nret d_W_isWithLesser_50 rfl rfl rfl
    · have H := ite_f H q1
      refine J.run b_W_isWithLesser_7_3 k_W_isWithLesser_7_3 rfl (And.intro (okO_st (S := S) rfl) (show J w (d + 2) m_W_isWithLesser (n0, z0, some (.int z.1), mk c z.2) 12 [some (.ref 138), some (.int x1), some (.int x2)] [.int (gI S 138 10), .int x2] (mk c S) from ?_))
      refine J.cge (tgt := 49) d_W_isWithLesser_12 rfl (fun q2 => ?_) (fun q2 => ?_)
      · have H := ite_t H q2
        refine J.run b_W_isWithLesser_49_1 k_W_isWithLesser_49_1 rfl (show J w (d + 2) m_W_isWithLesser (n0, z0, some (.int z.1), mk c z.2) 50 [some (.ref 138), some (.int x1), some (.int x2)] [.int (0 : Int32)] (mk c S) from ?_)
        obtain rfl := some_e H
        exact J.nret d_W_isWithLesser_50 rfl rfl rfl
      · have H := ite_f H q2
        obtain ⟨g3, H⟩ := ck_e H
        refine J.run b_W_isWithLesser_15_5 k_W_isWithLesser_15_5 rfl (And.intro (okO_st (S := S) rfl) (And.intro (okA_st (S := S) (n := 40) rfl g3) (show J w (d + 2) m_W_isWithLesser (n0, z0, some (.int z.1), mk c z.2) 22 [some (.ref 138), some (.int x1), some (.int x2)] [.int x2, .long (gJ S 143 (x1).toNatClampNeg)] (mk c S) from ?_)))
        obtain ⟨r4, S5, h6, H⟩ := bd_e H
        refine J.callSn (y := m_X_isIn) (av := [.long (gJ S 143 (x1).toNatClampNeg), .int x2]) (rest := []) l_W_98 d_W_isWithLesser_22 (c_X_isIn w (d + 0) c  S (gJ S 143 (x1).toNatClampNeg) x2 h6) rfl (Nat.le_of_ble_eq_true rfl) ⟨Nat.le_refl _, Nat.le_refl _⟩ (show J w (d + 2) m_W_isWithLesser (n0, z0, some (.int z.1), mk c z.2) 25 [some (.ref 138), some (.int x1), some (.int x2)] [.int r4] (mk c S5) from ?_)
        refine J.zeq (tgt := 43) d_W_isWithLesser_25 rfl (fun q7 => ?_) (fun q7 => ?_)
        · have H := ite_t H q7
          refine J.run b_W_isWithLesser_43_1 k_W_isWithLesser_43_1 rfl (show J w (d + 2) m_W_isWithLesser (n0, z0, some (.int z.1), mk c z.2) 46 [some (.ref 138), some (.int x1), some (.int (x2 + (1 : Int32)))] [] (mk c S5) from ?_)
          refine J.goto (tgt := 2) d_W_isWithLesser_46 rfl ?_
          refine J.mask [true, true, true] ?_
          exact ih S5 (x2 + (1 : Int32)) H
        · have H := ite_f H q7
          obtain ⟨g8, H⟩ := ck_e H
          refine J.run b_W_isWithLesser_28_5 k_W_isWithLesser_28_5 rfl (And.intro (okO_st (S := S5) rfl) (And.intro (okA_st (S := S5) (n := 40) rfl g8) (show J w (d + 2) m_W_isWithLesser (n0, z0, some (.int z.1), mk c z.2) 35 [some (.ref 138), some (.int x1), some (.int x2)] [.int x1, .long (gJ S5 143 (x2).toNatClampNeg)] (mk c S5) from ?_)))
          obtain ⟨r9, S10, h11, H⟩ := bd_e H
          refine J.callSn (y := m_X_isIn) (av := [.long (gJ S5 143 (x2).toNatClampNeg), .int x1]) (rest := []) l_W_98 d_W_isWithLesser_35 (c_X_isIn w (d + 0) c  S5 (gJ S5 143 (x2).toNatClampNeg) x1 h11) rfl (Nat.le_of_ble_eq_true rfl) ⟨Nat.le_refl _, Nat.le_refl _⟩ (show J w (d + 2) m_W_isWithLesser (n0, z0, some (.int z.1), mk c z.2) 38 [some (.ref 138), some (.int x1), some (.int x2)] [.int r9] (mk c S10) from ?_)
          refine J.zeq (tgt := 43) d_W_isWithLesser_38 rfl (fun q12 => ?_) (fun q12 => ?_)
          · have H := ite_t H q12
            refine J.run b_W_isWithLesser_43_1 k_W_isWithLesser_43_1 rfl (show J w (d + 2) m_W_isWithLesser (n0, z0, some (.int z.1), mk c z.2) 46 [some (.ref 138), some (.int x1), some (.int (x2 + (1 : Int32)))] [] (mk c S10) from ?_)
            refine J.goto (tgt := 2) d_W_isWithLesser_46 rfl ?_
            refine J.mask [true, true, true] ?_
            exact ih S10 (x2 + (1 : Int32)) H
          · have H := ite_f H q12
            refine J.run b_W_isWithLesser_41_1 k_W_isWithLesser_41_1 rfl (show J w (d + 2) m_W_isWithLesser (n0, z0, some (.int z.1), mk c z.2) 42 [some (.ref 138), some (.int x1), some (.int x2)] [.int (1 : Int32)] (mk c S10) from ?_)
            obtain rfl := some_e H
            exact J.nret d_W_isWithLesser_42 rfl rfl rfl
theorem c_W_isWithLesser (w : Wd) (d : Nat) (c : cx)   (S : hs) (x1 : Int32)  {z : Int32 × hs} (H : f_W_isWithLesser S x1 = some z) : Cl w (d + 2) m_W_isWithLesser [.ref 138, .int x1] (mk c S) (some (.int z.1)) (mk c z.2) := by
  refine Cl.of (Nat.le_refl _) (Nat.le_refl _) (by decide +kernel) (Nat.le_of_ble_eq_true rfl) ?_
  unfold f_W_isWithLesser at H
  generalize hN (mk c S) = n0
  generalize hZ (mk c S) = z0
  show J w (d + 2) m_W_isWithLesser (n0, z0, some (.int z.1), mk c z.2) 0 [some (.ref 138), some (.int x1), none] [] (mk c S)
  refine J.run b_W_isWithLesser_0_2 k_W_isWithLesser_0_2 rfl (show J w (d + 2) m_W_isWithLesser (n0, z0, some (.int z.1), mk c z.2) 2 [some (.ref 138), some (.int x1), some (.int (0 : Int32))] [] (mk c S) from ?_)
  refine J.mask [true, true, true] ?_
  refine lo_W_isWithLesser_2 w d c x1  1000 S (0 : Int32) H
def b_W_countParts_0_4 : List Ins := [(.iconst (0), 0, 0, 0), (.istore_n 1, 0, 0, 0), (.iconst (0), 0, 0, 0), (.istore_n 2, 0, 0, 0)]
theorem k_W_countParts_0_4 : bok m_W_countParts 0 b_W_countParts_0_4 = true := by decide +kernel
def b_W_countParts_4_3 : List Ins := [(.iload_n 2, 0, 0, 0), (.aload_n 0, 0, 0, 0), (.getfield 58, 4, 10, 0)]
theorem k_W_countParts_4_3 : bok m_W_countParts 4 b_W_countParts_4_3 = true := by decide +kernel
def b_W_countParts_60_1 : List Ins := [(.iload_n 1, 0, 0, 0)]
theorem k_W_countParts_60_1 : bok m_W_countParts 60 b_W_countParts_60_1 = true := by decide +kernel
def b_W_countParts_12_3 : List Ins := [(.aload_n 0, 0, 0, 0), (.getfield 39, 4, 8, 1), (.iload_n 2, 0, 0, 0)]
theorem k_W_countParts_12_3 : bok m_W_countParts 12 b_W_countParts_12_3 = true := by decide +kernel
def b_W_countParts_54_1 : List Ins := [(.iinc 2 (1), 0, 0, 0)]
theorem k_W_countParts_54_1 : bok m_W_countParts 54 b_W_countParts_54_1 = true := by decide +kernel
def b_W_countParts_23_7 : List Ins := [(.aload_n 0, 0, 0, 0), (.getfield 25, 4, 4, 2), (.iload_n 2, 0, 0, 0), (.aload_n 0, 0, 0, 0), (.iload_n 2, 0, 0, 0), (.aload_n 0, 0, 0, 0), (.getfield 39, 4, 8, 1)]
theorem k_W_countParts_23_7 : bok m_W_countParts 23 b_W_countParts_23_7 = true := by decide +kernel
def b_W_countParts_37_4 : List Ins := [(.lastore, 0, 0, 0), (.iload_n 1, 0, 0, 0), (.aload_n 0, 0, 0, 0), (.iload_n 2, 0, 0, 0)]
theorem k_W_countParts_37_4 : bok m_W_countParts 37 b_W_countParts_37_4 = true := by decide +kernel
def b_W_countParts_51_4 : List Ins := [(.iconst (1), 0, 0, 0), (.iadd, 0, 0, 0), (.istore_n 1, 0, 0, 0), (.iinc 2 (1), 0, 0, 0)]
theorem k_W_countParts_51_4 : bok m_W_countParts 51 b_W_countParts_51_4 = true := by decide +kernel
def b_W_countParts_47_1 : List Ins := [(.iconst (0), 0, 0, 0)]
theorem k_W_countParts_47_1 : bok m_W_countParts 47 b_W_countParts_47_1 = true := by decide +kernel
def b_W_countParts_52_3 : List Ins := [(.iadd, 0, 0, 0), (.istore_n 1, 0, 0, 0), (.iinc 2 (1), 0, 0, 0)]
theorem k_W_countParts_52_3 : bok m_W_countParts 52 b_W_countParts_52_3 = true := by decide +kernel
theorem d_W_countParts_9 : decode m_W_countParts.2.1 9 = .ok (.if_icmp .ge (51), 3) := by decide +kernel
theorem d_W_countParts_61 : decode m_W_countParts.2.1 61 = .ok (.ireturn, 1) := by decide +kernel
theorem d_W_countParts_17 : decode m_W_countParts.2.1 17 = .ok (.invokestatic 98, 3) := by decide +kernel
theorem d_W_countParts_20 : decode m_W_countParts.2.1 20 = .ok (.ifCond .eq (34), 3) := by decide +kernel
theorem d_W_countParts_57 : decode m_W_countParts.2.1 57 = .ok (.goto (-53), 3) := by decide +kernel
theorem d_W_countParts_34 : decode m_W_countParts.2.1 34 = .ok (.invokevirtual 119, 3) := by decide +kernel
theorem d_W_countParts_41 : decode m_W_countParts.2.1 41 = .ok (.invokevirtual 134, 3) := by decide +kernel
theorem d_W_countParts_44 : decode m_W_countParts.2.1 44 = .ok (.ifCond .eq (7), 3) := by decide +kernel
theorem d_W_countParts_48 : decode m_W_countParts.2.1 48 = .ok (.goto (4), 3) := by decide +kernel
def lp_W_countParts_4    : Nat → hs → Int32 → Int32 → Option (Int32 × hs)
  | 0, _, _, _ => none
  | n + 1, S, x1, x2 => (if (gI S 138 10) ≤ x2 then some (x1, S) else bd (f_X_isIn  S (gJ S 138 8) x2) fun r2 S3 => (if r2 = 0 then lp_W_countParts_4  n S3 x1 (x2 + (1 : Int32)) else bd (f_W_coursesFrom  S3 x2 (gJ S3 138 8)) fun r6 S7 => ck (inb x2 40) (bd (f_W_isWithLesser  (uJ S7 143 (x2).toNatClampNeg r6) x2) fun r10 S11 => (if r10 = 0 then lp_W_countParts_4  n S11 (x1 + (1 : Int32)) (x2 + (1 : Int32)) else lp_W_countParts_4  n S11 (x1 + (0 : Int32)) (x2 + (1 : Int32))))))
def f_W_countParts  (S : hs)  : Option (Int32 × hs) := lp_W_countParts_4  1000 S (0 : Int32) (0 : Int32)
theorem lo_W_countParts_4 (w : Wd) (d : Nat) (c : cx) {n0 z0 : Nat} {z : Int32 × hs}       :
    ∀ (n : Nat) (S : hs) (x1 : Int32) (x2 : Int32), lp_W_countParts_4  n S x1 x2 = some z → J w (d + 4) m_W_countParts (n0, z0, some (.int z.1), mk c z.2) 4 [some (.ref 138), some (.int x1), some (.int x2)] [] (mk c S) := by
  intro n
  induction n with
  | zero => intro S x1 x2 H; cases H
  | succ n ih =>
    intro S x1 x2 H
    rw [lp_W_countParts_4] at H
    refine J.run b_W_countParts_4_3 k_W_countParts_4_3 rfl (And.intro (okO_st (S := S) rfl) (show J w (d + 4) m_W_countParts (n0, z0, some (.int z.1), mk c z.2) 9 [some (.ref 138), some (.int x1), some (.int x2)] [.int (gI S 138 10), .int x2] (mk c S) from ?_))
    refine J.cge (tgt := 60) d_W_countParts_9 rfl (fun q1 => ?_) (fun q1 => ?_)
    · have H := ite_t H q1
      refine J.run b_W_countParts_60_1 k_W_countParts_60_1 rfl (show J w (d + 4) m_W_countParts (n0, z0, some (.int z.1), mk c z.2) 61 [some (.ref 138), some (.int x1), some (.int x2)] [.int x1] (mk c S) from ?_)
      obtain rfl := some_e H
      exact J.iret d_W_countParts_61 rfl rfl
    · have H := ite_f H q1
      refine J.run b_W_countParts_12_3 k_W_countParts_12_3 rfl (And.intro (okO_st (S := S) rfl) (show J w (d + 4) m_W_countParts (n0, z0, some (.int z.1), mk c z.2) 17 [some (.ref 138), some (.int x1), some (.int x2)] [.int x2, .long (gJ S 138 8)] (mk c S) from ?_))
      obtain ⟨r2, S3, h4, H⟩ := bd_e H
      refine J.callSn (y := m_X_isIn) (av := [.long (gJ S 138 8), .int x2]) (rest := []) l_W_98 d_W_countParts_17 (c_X_isIn w (d + 2) c  S (gJ S 138 8) x2 h4) rfl (Nat.le_of_ble_eq_true rfl) ⟨Nat.le_refl _, Nat.le_refl _⟩ (show J w (d + 4) m_W_countParts (n0, z0, some (.int z.1), mk c z.2) 20 [some (.ref 138), some (.int x1), some (.int x2)] [.int r2] (mk c S3) from ?_)
      refine J.zeq (tgt := 54) d_W_countParts_20 rfl (fun q5 => ?_) (fun q5 => ?_)
      · have H := ite_t H q5
        refine J.run b_W_countParts_54_1 k_W_countParts_54_1 rfl (show J w (d + 4) m_W_countParts (n0, z0, some (.int z.1), mk c z.2) 57 [some (.ref 138), some (.int x1), some (.int (x2 + (1 : Int32)))] [] (mk c S3) from ?_)
        refine J.goto (tgt := 4) d_W_countParts_57 rfl ?_
        refine J.mask [true, true, true] ?_
        exact ih S3 x1 (x2 + (1 : Int32)) H
      · have H := ite_f H q5
        refine J.run b_W_countParts_23_7 k_W_countParts_23_7 rfl (And.intro (okO_st (S := S3) rfl) (And.intro (okO_st (S := S3) rfl) (show J w (d + 4) m_W_countParts (n0, z0, some (.int z.1), mk c z.2) 34 [some (.ref 138), some (.int x1), some (.int x2)] [.long (gJ S3 138 8), .int x2, .ref 138, .int x2, .ref 143] (mk c S3) from ?_)))
        obtain ⟨r6, S7, h8, H⟩ := bd_e H
        refine J.callV (y := m_W_coursesFrom) (av := [.int x2, .long (gJ S3 138 8)]) (rest := [.int x2, .ref 143]) (q := 138) l_W_119 d_W_countParts_34 (isC_st rfl rfl) (c_W_coursesFrom w (d + 0) c  S3 x2 (gJ S3 138 8) h8) rfl (Nat.le_of_ble_eq_true rfl) ⟨Nat.le_refl _, Nat.le_refl _⟩ (show J w (d + 4) m_W_countParts (n0, z0, some (.int z.1), mk c z.2) 37 [some (.ref 138), some (.int x1), some (.int x2)] [.long r6, .int x2, .ref 143] (mk c S7) from ?_)
        obtain ⟨g9, H⟩ := ck_e H
        refine J.run b_W_countParts_37_4 k_W_countParts_37_4 rfl (And.intro (okB_st (S := S7) (n := 40) rfl g9) (show J w (d + 4) m_W_countParts (n0, z0, some (.int z.1), mk c z.2) 41 [some (.ref 138), some (.int x1), some (.int x2)] [.int x2, .ref 138, .int x1] (mk c (uJ S7 143 (x2).toNatClampNeg r6)) from ?_))
        obtain ⟨r10, S11, h12, H⟩ := bd_e H
        refine J.callV (y := m_W_isWithLesser) (av := [.int x2]) (rest := [.int x1]) (q := 138) l_W_134 d_W_countParts_41 (isC_st rfl rfl) (c_W_isWithLesser w (d + 1) c  (uJ S7 143 (x2).toNatClampNeg r6) x2 h12) rfl (Nat.le_of_ble_eq_true rfl) ⟨Nat.le_refl _, Nat.le_refl _⟩ (show J w (d + 4) m_W_countParts (n0, z0, some (.int z.1), mk c z.2) 44 [some (.ref 138), some (.int x1), some (.int x2)] [.int r10, .int x1] (mk c S11) from ?_)
        refine J.zeq (tgt := 51) d_W_countParts_44 rfl (fun q13 => ?_) (fun q13 => ?_)
        · have H := ite_t H q13
          refine J.run b_W_countParts_51_4 k_W_countParts_51_4 rfl (show J w (d + 4) m_W_countParts (n0, z0, some (.int z.1), mk c z.2) 57 [some (.ref 138), some (.int (x1 + (1 : Int32))), some (.int (x2 + (1 : Int32)))] [] (mk c S11) from ?_)
          refine J.goto (tgt := 4) d_W_countParts_57 rfl ?_
          refine J.mask [true, true, true] ?_
          exact ih S11 (x1 + (1 : Int32)) (x2 + (1 : Int32)) H
        · have H := ite_f H q13
          refine J.run b_W_countParts_47_1 k_W_countParts_47_1 rfl (show J w (d + 4) m_W_countParts (n0, z0, some (.int z.1), mk c z.2) 48 [some (.ref 138), some (.int x1), some (.int x2)] [.int (0 : Int32), .int x1] (mk c S11) from ?_)
          refine J.goto (tgt := 52) d_W_countParts_48 rfl ?_
          refine J.run b_W_countParts_52_3 k_W_countParts_52_3 rfl (show J w (d + 4) m_W_countParts (n0, z0, some (.int z.1), mk c z.2) 57 [some (.ref 138), some (.int (x1 + (0 : Int32))), some (.int (x2 + (1 : Int32)))] [] (mk c S11) from ?_)
          refine J.goto (tgt := 4) d_W_countParts_57 rfl ?_
          refine J.mask [true, true, true] ?_
          exact ih S11 (x1 + (0 : Int32)) (x2 + (1 : Int32)) H
theorem c_W_countParts (w : Wd) (d : Nat) (c : cx)   (S : hs)   {z : Int32 × hs} (H : f_W_countParts S = some z) : Cl w (d + 4) m_W_countParts [.ref 138] (mk c S) (some (.int z.1)) (mk c z.2) := by
  refine Cl.of (Nat.le_refl _) (Nat.le_refl _) (by decide +kernel) (Nat.le_of_ble_eq_true rfl) ?_
  unfold f_W_countParts at H
  generalize hN (mk c S) = n0
  generalize hZ (mk c S) = z0
  show J w (d + 4) m_W_countParts (n0, z0, some (.int z.1), mk c z.2) 0 [some (.ref 138), none, none] [] (mk c S)
  refine J.run b_W_countParts_0_4 k_W_countParts_0_4 rfl (show J w (d + 4) m_W_countParts (n0, z0, some (.int z.1), mk c z.2) 4 [some (.ref 138), some (.int (0 : Int32)), some (.int (0 : Int32))] [] (mk c S) from ?_)
  refine J.mask [true, true, true] ?_
  refine lo_W_countParts_4 w d c   1000 S (0 : Int32) (0 : Int32) H
def b_W_loopOf_0_1 : List Ins := [(.iload_n 1, 0, 0, 0)]
theorem k_W_loopOf_0_1 : bok m_W_loopOf 0 b_W_loopOf_0_1 = true := by decide +kernel
def b_W_loopOf_12_1 : List Ins := [(.ldc 93, 0, 1000000, 0)]
theorem k_W_loopOf_12_1 : bok m_W_loopOf 12 b_W_loopOf_12_1 = true := by decide +kernel
def b_W_loopOf_4_3 : List Ins := [(.iload_n 1, 0, 0, 0), (.aload_n 0, 0, 0, 0), (.getfield 58, 4, 10, 0)]
theorem k_W_loopOf_4_3 : bok m_W_loopOf 4 b_W_loopOf_4_3 = true := by decide +kernel
def b_W_loopOf_15_4 : List Ins := [(.aload_n 0, 0, 0, 0), (.lconst 1, 0, 0, 0), (.iload_n 1, 0, 0, 0), (.lshl, 0, 0, 0)]
theorem k_W_loopOf_15_4 : bok m_W_loopOf 15 b_W_loopOf_15_4 = true := by decide +kernel
def b_W_loopOf_22_4 : List Ins := [(.ldc 93, 0, 1000000, 0), (.istore_n 2, 0, 0, 0), (.iconst (0), 0, 0, 0), (.istore_n 3, 0, 0, 0)]
theorem k_W_loopOf_22_4 : bok m_W_loopOf 22 b_W_loopOf_22_4 = true := by decide +kernel
def b_W_loopOf_27_3 : List Ins := [(.iload_n 3, 0, 0, 0), (.aload_n 0, 0, 0, 0), (.getfield 58, 4, 10, 0)]
theorem k_W_loopOf_27_3 : bok m_W_loopOf 27 b_W_loopOf_27_3 = true := by decide +kernel
def b_W_loopOf_88_1 : List Ins := [(.iload_n 2, 0, 0, 0)]
theorem k_W_loopOf_88_1 : bok m_W_loopOf 88 b_W_loopOf_88_1 = true := by decide +kernel
def b_W_loopOf_35_8 : List Ins := [(.aload_n 0, 0, 0, 0), (.getfield 21, 4, 3, 2), (.iload_n 1, 0, 0, 0), (.laload, 0, 0, 0), (.aload_n 0, 0, 0, 0), (.getfield 39, 4, 8, 1), (.land, 0, 0, 0), (.iload_n 3, 0, 0, 0)]
theorem k_W_loopOf_35_8 : bok m_W_loopOf 35 b_W_loopOf_35_8 = true := by decide +kernel
def b_W_loopOf_82_1 : List Ins := [(.iinc 3 (1), 0, 0, 0)]
theorem k_W_loopOf_82_1 : bok m_W_loopOf 82 b_W_loopOf_82_1 = true := by decide +kernel
def b_W_loopOf_53_5 : List Ins := [(.aload_n 0, 0, 0, 0), (.getfield 28, 4, 5, 2), (.iload_n 3, 0, 0, 0), (.iaload, 0, 0, 0), (.ldc 93, 0, 1000000, 0)]
theorem k_W_loopOf_53_5 : bok m_W_loopOf 53 b_W_loopOf_53_5 = true := by decide +kernel
def b_W_loopOf_64_10 : List Ins := [(.iload_n 2, 0, 0, 0), (.aload_n 0, 0, 0, 0), (.getfield 28, 4, 5, 2), (.iload_n 3, 0, 0, 0), (.iaload, 0, 0, 0), (.aload_n 0, 0, 0, 0), (.getfield 18, 4, 2, 2), (.iload_n 3, 0, 0, 0), (.iaload, 0, 0, 0), (.iadd, 0, 0, 0)]
theorem k_W_loopOf_64_10 : bok m_W_loopOf 64 b_W_loopOf_64_10 = true := by decide +kernel
def b_W_loopOf_81_2 : List Ins := [(.istore_n 2, 0, 0, 0), (.iinc 3 (1), 0, 0, 0)]
theorem k_W_loopOf_81_2 : bok m_W_loopOf 81 b_W_loopOf_81_2 = true := by decide +kernel
theorem d_W_loopOf_1 : decode m_W_loopOf.2.1 1 = .ok (.ifCond .lt (11), 3) := by decide +kernel
theorem d_W_loopOf_14 : decode m_W_loopOf.2.1 14 = .ok (.ireturn, 1) := by decide +kernel
theorem d_W_loopOf_9 : decode m_W_loopOf.2.1 9 = .ok (.if_icmp .lt (6), 3) := by decide +kernel
theorem d_W_loopOf_19 : decode m_W_loopOf.2.1 19 = .ok (.invokevirtual 94, 3) := by decide +kernel
theorem d_W_loopOf_32 : decode m_W_loopOf.2.1 32 = .ok (.if_icmp .ge (56), 3) := by decide +kernel
theorem d_W_loopOf_89 : decode m_W_loopOf.2.1 89 = .ok (.ireturn, 1) := by decide +kernel
theorem d_W_loopOf_47 : decode m_W_loopOf.2.1 47 = .ok (.invokestatic 98, 3) := by decide +kernel
theorem d_W_loopOf_50 : decode m_W_loopOf.2.1 50 = .ok (.ifCond .eq (32), 3) := by decide +kernel
theorem d_W_loopOf_85 : decode m_W_loopOf.2.1 85 = .ok (.goto (-58), 3) := by decide +kernel
theorem d_W_loopOf_61 : decode m_W_loopOf.2.1 61 = .ok (.if_icmp .ge (21), 3) := by decide +kernel
theorem d_W_loopOf_78 : decode m_W_loopOf.2.1 78 = .ok (.invokestatic 52, 3) := by decide +kernel
def lp_W_loopOf_27 (x1 : Int32)   : Nat → hs → Int32 → Int32 → Option (Int32 × hs)
  | 0, _, _, _ => none
  | n + 1, S, x2, x3 => (if (gI S 138 10) ≤ x3 then some (x2, S) else ck (inb x1 40) (bd (f_X_isIn  S ((gJ S 142 (x1).toNatClampNeg) &&& (gJ S 138 8)) x3) fun r8 S9 => (if r8 = 0 then lp_W_loopOf_27 x1 n S9 x2 (x3 + (1 : Int32)) else ck (inb x3 40) ((if (1000000 : Int32) ≤ (gI S9 144 (x3).toNatClampNeg) then lp_W_loopOf_27 x1 n S9 x2 (x3 + (1 : Int32)) else bd (f_Ma_min  S9 x2 ((gI S9 144 (x3).toNatClampNeg) + (gI S9 141 (x3).toNatClampNeg))) fun r14 S15 => lp_W_loopOf_27 x1 n S15 r14 (x3 + (1 : Int32)))))))
def f_W_loopOf  (S : hs) (x1 : Int32) : Option (Int32 × hs) := (if x1 < 0 then some ((1000000 : Int32), S) else (if x1 < (gI S 138 10) then bd (f_W_measure  S ((1 : Int64) <<< (x1.toInt64 &&& 63))) fun r3 S4 => lp_W_loopOf_27 x1 1000 S4 (1000000 : Int32) (0 : Int32) else some ((1000000 : Int32), S)))
theorem lo_W_loopOf_27 (w : Wd) (d : Nat) (c : cx) {n0 z0 : Nat} {z : Int32 × hs}   (x1 : Int32)    :
    ∀ (n : Nat) (S : hs) (x2 : Int32) (x3 : Int32), lp_W_loopOf_27 x1 n S x2 x3 = some z → J w (d + 4) m_W_loopOf (n0, z0, some (.int z.1), mk c z.2) 27 [some (.ref 138), some (.int x1), some (.int x2), some (.int x3)] [] (mk c S) := by
  intro n
  induction n with
  | zero => intro S x2 x3 H; cases H
  | succ n ih =>
    intro S x2 x3 H
    rw [lp_W_loopOf_27] at H
    refine J.run b_W_loopOf_27_3 k_W_loopOf_27_3 rfl (And.intro (okO_st (S := S) rfl) (show J w (d + 4) m_W_loopOf (n0, z0, some (.int z.1), mk c z.2) 32 [some (.ref 138), some (.int x1), some (.int x2), some (.int x3)] [.int (gI S 138 10), .int x3] (mk c S) from ?_))
    refine J.cge (tgt := 88) d_W_loopOf_32 rfl (fun q6 => ?_) (fun q6 => ?_)
    · have H := ite_t H q6
      refine J.run b_W_loopOf_88_1 k_W_loopOf_88_1 rfl (show J w (d + 4) m_W_loopOf (n0, z0, some (.int z.1), mk c z.2) 89 [some (.ref 138), some (.int x1), some (.int x2), some (.int x3)] [.int x2] (mk c S) from ?_)
      obtain rfl := some_e H
      exact J.iret d_W_loopOf_89 rfl rfl
    · have H := ite_f H q6
      obtain ⟨g7, H⟩ := ck_e H
      refine J.run b_W_loopOf_35_8 k_W_loopOf_35_8 rfl (And.intro (okO_st (S := S) rfl) (And.intro (okA_st (S := S) (n := 40) rfl g7) (And.intro (okO_st (S := S) rfl) (show J w (d + 4) m_W_loopOf (n0, z0, some (.int z.1), mk c z.2) 47 [some (.ref 138), some (.int x1), some (.int x2), some (.int x3)] [.int x3, .long ((gJ S 142 (x1).toNatClampNeg) &&& (gJ S 138 8))] (mk c S) from ?_))))
      obtain ⟨r8, S9, h10, H⟩ := bd_e H
      refine J.callSn (y := m_X_isIn) (av := [.long ((gJ S 142 (x1).toNatClampNeg) &&& (gJ S 138 8)), .int x3]) (rest := []) l_W_98 d_W_loopOf_47 (c_X_isIn w (d + 2) c  S ((gJ S 142 (x1).toNatClampNeg) &&& (gJ S 138 8)) x3 h10) rfl (Nat.le_of_ble_eq_true rfl) ⟨Nat.le_refl _, Nat.le_refl _⟩ (show J w (d + 4) m_W_loopOf (n0, z0, some (.int z.1), mk c z.2) 50 [some (.ref 138), some (.int x1), some (.int x2), some (.int x3)] [.int r8] (mk c S9) from ?_)
      refine J.zeq (tgt := 82) d_W_loopOf_50 rfl (fun q11 => ?_) (fun q11 => ?_)
      · have H := ite_t H q11
        refine J.run b_W_loopOf_82_1 k_W_loopOf_82_1 rfl (show J w (d + 4) m_W_loopOf (n0, z0, some (.int z.1), mk c z.2) 85 [some (.ref 138), some (.int x1), some (.int x2), some (.int (x3 + (1 : Int32)))] [] (mk c S9) from ?_)
        refine J.goto (tgt := 27) d_W_loopOf_85 rfl ?_
        refine J.mask [true, true, true, true] ?_
        exact ih S9 x2 (x3 + (1 : Int32)) H
      · have H := ite_f H q11
        obtain ⟨g12, H⟩ := ck_e H
        refine J.run b_W_loopOf_53_5 k_W_loopOf_53_5 rfl (And.intro (okO_st (S := S9) rfl) (And.intro (okA_st (S := S9) (n := 40) rfl g12) (show J w (d + 4) m_W_loopOf (n0, z0, some (.int z.1), mk c z.2) 61 [some (.ref 138), some (.int x1), some (.int x2), some (.int x3)] [.int (1000000 : Int32), .int (gI S9 144 (x3).toNatClampNeg)] (mk c S9) from ?_)))
        refine J.cge (tgt := 82) d_W_loopOf_61 rfl (fun q13 => ?_) (fun q13 => ?_)
        · have H := ite_t H q13
          refine J.run b_W_loopOf_82_1 k_W_loopOf_82_1 rfl (show J w (d + 4) m_W_loopOf (n0, z0, some (.int z.1), mk c z.2) 85 [some (.ref 138), some (.int x1), some (.int x2), some (.int (x3 + (1 : Int32)))] [] (mk c S9) from ?_)
          refine J.goto (tgt := 27) d_W_loopOf_85 rfl ?_
          refine J.mask [true, true, true, true] ?_
          exact ih S9 x2 (x3 + (1 : Int32)) H
        · have H := ite_f H q13
          refine J.run b_W_loopOf_64_10 k_W_loopOf_64_10 rfl (And.intro (okO_st (S := S9) rfl) (And.intro (okA_st (S := S9) (n := 40) rfl g12) (And.intro (okO_st (S := S9) rfl) (And.intro (okA_st (S := S9) (n := 40) rfl g12) (show J w (d + 4) m_W_loopOf (n0, z0, some (.int z.1), mk c z.2) 78 [some (.ref 138), some (.int x1), some (.int x2), some (.int x3)] [.int ((gI S9 144 (x3).toNatClampNeg) + (gI S9 141 (x3).toNatClampNeg)), .int x2] (mk c S9) from ?_)))))
          obtain ⟨r14, S15, h16, H⟩ := bd_e H
          refine J.callS (y := m_Ma_min) (av := [.int x2, .int ((gI S9 144 (x3).toNatClampNeg) + (gI S9 141 (x3).toNatClampNeg))]) (rest := []) l_W_52 d_W_loopOf_78 (c_Ma_min w (d + 2) c  S9 x2 ((gI S9 144 (x3).toNatClampNeg) + (gI S9 141 (x3).toNatClampNeg)) h16) rfl (Nat.le_of_ble_eq_true rfl) ⟨Nat.le_refl _, Nat.le_refl _⟩ (show J w (d + 4) m_W_loopOf (n0, z0, some (.int z.1), mk c z.2) 81 [some (.ref 138), some (.int x1), some (.int x2), some (.int x3)] [.int r14] (mk c S15) from ?_)
          refine J.run b_W_loopOf_81_2 k_W_loopOf_81_2 rfl (show J w (d + 4) m_W_loopOf (n0, z0, some (.int z.1), mk c z.2) 85 [some (.ref 138), some (.int x1), some (.int r14), some (.int (x3 + (1 : Int32)))] [] (mk c S15) from ?_)
          refine J.goto (tgt := 27) d_W_loopOf_85 rfl ?_
          refine J.mask [true, true, true, true] ?_
          exact ih S15 r14 (x3 + (1 : Int32)) H
theorem c_W_loopOf (w : Wd) (d : Nat) (c : cx)   (S : hs) (x1 : Int32)  {z : Int32 × hs} (H : f_W_loopOf S x1 = some z) : Cl w (d + 4) m_W_loopOf [.ref 138, .int x1] (mk c S) (some (.int z.1)) (mk c z.2) := by
  refine Cl.of (Nat.le_refl _) (Nat.le_refl _) (by decide +kernel) (Nat.le_of_ble_eq_true rfl) ?_
  unfold f_W_loopOf at H
  generalize hN (mk c S) = n0
  generalize hZ (mk c S) = z0
  show J w (d + 4) m_W_loopOf (n0, z0, some (.int z.1), mk c z.2) 0 [some (.ref 138), some (.int x1), none, none] [] (mk c S)
  refine J.run b_W_loopOf_0_1 k_W_loopOf_0_1 rfl (show J w (d + 4) m_W_loopOf (n0, z0, some (.int z.1), mk c z.2) 1 [some (.ref 138), some (.int x1), none, none] [.int x1] (mk c S) from ?_)
  refine J.zlt (tgt := 12) d_W_loopOf_1 rfl (fun q1 => ?_) (fun q1 => ?_)
  · have H := ite_t H q1
    refine J.run b_W_loopOf_12_1 k_W_loopOf_12_1 rfl (show J w (d + 4) m_W_loopOf (n0, z0, some (.int z.1), mk c z.2) 14 [some (.ref 138), some (.int x1), none, none] [.int (1000000 : Int32)] (mk c S) from ?_)
    obtain rfl := some_e H
    exact J.iret d_W_loopOf_14 rfl rfl
  · have H := ite_f H q1
    refine J.run b_W_loopOf_4_3 k_W_loopOf_4_3 rfl (And.intro (okO_st (S := S) rfl) (show J w (d + 4) m_W_loopOf (n0, z0, some (.int z.1), mk c z.2) 9 [some (.ref 138), some (.int x1), none, none] [.int (gI S 138 10), .int x1] (mk c S) from ?_))
    refine J.clt (tgt := 15) d_W_loopOf_9 rfl (fun q2 => ?_) (fun q2 => ?_)
    · have H := ite_t H q2
      refine J.run b_W_loopOf_15_4 k_W_loopOf_15_4 rfl (show J w (d + 4) m_W_loopOf (n0, z0, some (.int z.1), mk c z.2) 19 [some (.ref 138), some (.int x1), none, none] [.long ((1 : Int64) <<< (x1.toInt64 &&& 63)), .ref 138] (mk c S) from ?_)
      obtain ⟨r3, S4, h5, H⟩ := bd_e H
      refine J.callV (y := m_W_measure) (av := [.long ((1 : Int64) <<< (x1.toInt64 &&& 63))]) (rest := []) (q := 138) l_W_94 d_W_loopOf_19 (isC_st rfl rfl) (c_W_measure w (d + 0) c  S ((1 : Int64) <<< (x1.toInt64 &&& 63)) h5) rfl (Nat.le_of_ble_eq_true rfl) ⟨Nat.le_refl _, Nat.le_refl _⟩ (show J w (d + 4) m_W_loopOf (n0, z0, some (.int z.1), mk c z.2) 22 [some (.ref 138), some (.int x1), none, none] [] (mk c S4) from ?_)
      refine J.run b_W_loopOf_22_4 k_W_loopOf_22_4 rfl (show J w (d + 4) m_W_loopOf (n0, z0, some (.int z.1), mk c z.2) 27 [some (.ref 138), some (.int x1), some (.int (1000000 : Int32)), some (.int (0 : Int32))] [] (mk c S4) from ?_)
      refine J.mask [true, true, true, true] ?_
      refine lo_W_loopOf_27 w d c x1  1000 S4 (1000000 : Int32) (0 : Int32) H
    · have H := ite_f H q2
      refine J.run b_W_loopOf_12_1 k_W_loopOf_12_1 rfl (show J w (d + 4) m_W_loopOf (n0, z0, some (.int z.1), mk c z.2) 14 [some (.ref 138), some (.int x1), none, none] [.int (1000000 : Int32)] (mk c S) from ?_)
      obtain rfl := some_e H
      exact J.iret d_W_loopOf_14 rfl rfl
def b_Ma_max_0_2 : List Ins := [(.iload_n 0, 0, 0, 0), (.iload_n 1, 0, 0, 0)]
theorem k_Ma_max_0_2 : bok m_Ma_max 0 b_Ma_max_0_2 = true := by decide +kernel
def b_Ma_max_9_1 : List Ins := [(.iload_n 1, 0, 0, 0)]
theorem k_Ma_max_9_1 : bok m_Ma_max 9 b_Ma_max_9_1 = true := by decide +kernel
def b_Ma_max_5_1 : List Ins := [(.iload_n 0, 0, 0, 0)]
theorem k_Ma_max_5_1 : bok m_Ma_max 5 b_Ma_max_5_1 = true := by decide +kernel
theorem d_Ma_max_2 : decode m_Ma_max.2.1 2 = .ok (.if_icmp .lt (7), 3) := by decide +kernel
theorem d_Ma_max_10 : decode m_Ma_max.2.1 10 = .ok (.ireturn, 1) := by decide +kernel
theorem d_Ma_max_6 : decode m_Ma_max.2.1 6 = .ok (.goto (4), 3) := by decide +kernel
def f_Ma_max  (S : hs) (x0 : Int32) (x1 : Int32) : Option (Int32 × hs) := (if x0 < x1 then some (x1, S) else some (x0, S))
theorem c_Ma_max (w : Wd) (d : Nat) (c : cx)   (S : hs) (x0 : Int32) (x1 : Int32)  {z : Int32 × hs} (H : f_Ma_max S x0 x1 = some z) : Cl w (d + 1) m_Ma_max [.int x0, .int x1] (mk c S) (some (.int z.1)) (mk c z.2) := by
  refine Cl.of (Nat.le_refl _) (Nat.le_refl _) (by decide +kernel) (Nat.le_of_ble_eq_true rfl) ?_
  unfold f_Ma_max at H
  generalize hN (mk c S) = n0
  generalize hZ (mk c S) = z0
  show J w (d + 1) m_Ma_max (n0, z0, some (.int z.1), mk c z.2) 0 [some (.int x0), some (.int x1)] [] (mk c S)
  refine J.run b_Ma_max_0_2 k_Ma_max_0_2 rfl (show J w (d + 1) m_Ma_max (n0, z0, some (.int z.1), mk c z.2) 2 [some (.int x0), some (.int x1)] [.int x1, .int x0] (mk c S) from ?_)
  refine J.clt (tgt := 9) d_Ma_max_2 rfl (fun q1 => ?_) (fun q1 => ?_)
  · have H := ite_t H q1
    refine J.run b_Ma_max_9_1 k_Ma_max_9_1 rfl (show J w (d + 1) m_Ma_max (n0, z0, some (.int z.1), mk c z.2) 10 [some (.int x0), some (.int x1)] [.int x1] (mk c S) from ?_)
    obtain rfl := some_e H
    exact J.iret d_Ma_max_10 rfl rfl
  · have H := ite_f H q1
    refine J.run b_Ma_max_5_1 k_Ma_max_5_1 rfl (show J w (d + 1) m_Ma_max (n0, z0, some (.int z.1), mk c z.2) 6 [some (.int x0), some (.int x1)] [.int x0] (mk c S) from ?_)
    refine J.goto (tgt := 10) d_Ma_max_6 rfl ?_
    obtain rfl := some_e H
    exact J.iret d_Ma_max_10 rfl rfl
def b_W_worstDetour_0_4 : List Ins := [(.bipush (-3), 0, 0, 0), (.istore_n 1, 0, 0, 0), (.iconst (0), 0, 0, 0), (.istore_n 2, 0, 0, 0)]
theorem k_W_worstDetour_0_4 : bok m_W_worstDetour 0 b_W_worstDetour_0_4 = true := by decide +kernel
def b_W_worstDetour_5_3 : List Ins := [(.iload_n 2, 0, 0, 0), (.aload_n 0, 0, 0, 0), (.getfield 64, 4, 11, 0)]
theorem k_W_worstDetour_5_3 : bok m_W_worstDetour 5 b_W_worstDetour_5_3 = true := by decide +kernel
def b_W_worstDetour_76_1 : List Ins := [(.iload_n 1, 0, 0, 0)]
theorem k_W_worstDetour_76_1 : bok m_W_worstDetour 76 b_W_worstDetour_76_1 = true := by decide +kernel
def b_W_worstDetour_13_2 : List Ins := [(.aload_n 0, 0, 0, 0), (.iload_n 2, 0, 0, 0)]
theorem k_W_worstDetour_13_2 : bok m_W_worstDetour 13 b_W_worstDetour_13_2 = true := by decide +kernel
def b_W_worstDetour_18_2 : List Ins := [(.iconst (0), 0, 0, 0), (.istore_n 3, 0, 0, 0)]
theorem k_W_worstDetour_18_2 : bok m_W_worstDetour 18 b_W_worstDetour_18_2 = true := by decide +kernel
def b_W_worstDetour_20_3 : List Ins := [(.iload_n 3, 0, 0, 0), (.aload_n 0, 0, 0, 0), (.getfield 58, 4, 10, 0)]
theorem k_W_worstDetour_20_3 : bok m_W_worstDetour 20 b_W_worstDetour_20_3 = true := by decide +kernel
def b_W_worstDetour_28_5 : List Ins := [(.aload_n 0, 0, 0, 0), (.getfield 28, 4, 5, 2), (.iload_n 3, 0, 0, 0), (.iaload, 0, 0, 0), (.ldc 93, 0, 1000000, 0)]
theorem k_W_worstDetour_28_5 : bok m_W_worstDetour 28 b_W_worstDetour_28_5 = true := by decide +kernel
def b_W_worstDetour_64_1 : List Ins := [(.iinc 3 (1), 0, 0, 0)]
theorem k_W_worstDetour_64_1 : bok m_W_worstDetour 64 b_W_worstDetour_64_1 = true := by decide +kernel
def b_W_worstDetour_39_15 : List Ins := [(.iload_n 1, 0, 0, 0), (.aload_n 0, 0, 0, 0), (.getfield 28, 4, 5, 2), (.iload_n 3, 0, 0, 0), (.iaload, 0, 0, 0), (.aload_n 0, 0, 0, 0), (.getfield 36, 4, 7, 2), (.aload_n 0, 0, 0, 0), (.getfield 15, 4, 1, 2), (.iload_n 3, 0, 0, 0), (.iaload, 0, 0, 0), (.aaload, 0, 0, 0), (.iload_n 2, 0, 0, 0), (.iaload, 0, 0, 0), (.isub, 0, 0, 0)]
theorem k_W_worstDetour_39_15 : bok m_W_worstDetour 39 b_W_worstDetour_39_15 = true := by decide +kernel
def b_W_worstDetour_63_2 : List Ins := [(.istore_n 1, 0, 0, 0), (.iinc 3 (1), 0, 0, 0)]
theorem k_W_worstDetour_63_2 : bok m_W_worstDetour 63 b_W_worstDetour_63_2 = true := by decide +kernel
def b_W_worstDetour_70_1 : List Ins := [(.iinc 2 (1), 0, 0, 0)]
theorem k_W_worstDetour_70_1 : bok m_W_worstDetour 70 b_W_worstDetour_70_1 = true := by decide +kernel
theorem d_W_worstDetour_10 : decode m_W_worstDetour.2.1 10 = .ok (.if_icmp .ge (66), 3) := by decide +kernel
theorem d_W_worstDetour_77 : decode m_W_worstDetour.2.1 77 = .ok (.ireturn, 1) := by decide +kernel
theorem d_W_worstDetour_15 : decode m_W_worstDetour.2.1 15 = .ok (.invokevirtual 147, 3) := by decide +kernel
theorem d_W_worstDetour_25 : decode m_W_worstDetour.2.1 25 = .ok (.if_icmp .ge (45), 3) := by decide +kernel
theorem d_W_worstDetour_36 : decode m_W_worstDetour.2.1 36 = .ok (.if_icmp .ge (28), 3) := by decide +kernel
theorem d_W_worstDetour_67 : decode m_W_worstDetour.2.1 67 = .ok (.goto (-47), 3) := by decide +kernel
theorem d_W_worstDetour_60 : decode m_W_worstDetour.2.1 60 = .ok (.invokestatic 151, 3) := by decide +kernel
theorem d_W_worstDetour_73 : decode m_W_worstDetour.2.1 73 = .ok (.goto (-68), 3) := by decide +kernel
def lp_W_worstDetour_20 (x2 : Int32)  (K0 : hs → Int32 → Int32 → Option (Int32 × hs)) : Nat → hs → Int32 → Int32 → Option (Int32 × hs)
  | 0, _, _, _ => none
  | n + 1, S, x1, x3 => (if (gI S 138 10) ≤ x3 then K0 S x1 x3 else ck (inb x3 40) ((if (1000000 : Int32) ≤ (gI S 144 (x3).toNatClampNeg) then lp_W_worstDetour_20 x2 K0 n S x1 (x3 + (1 : Int32)) else ck (inb (gI S 140 (x3).toNatClampNeg) 12) (ck (inb x2 12) (bd (f_Ma_max  S x1 ((gI S 144 (x3).toNatClampNeg) - (gI S (147 + ((gI S 140 (x3).toNatClampNeg)).toNatClampNeg) (x2).toNatClampNeg))) fun r10 S11 => lp_W_worstDetour_20 x2 K0 n S11 r10 (x3 + (1 : Int32)))))))
def lp_W_worstDetour_5    : Nat → hs → Int32 → Int32 → Option (Int32 × hs)
  | 0, _, _, _ => none
  | n + 1, S, x1, x2 => (if (gI S 138 11) ≤ x2 then some (x1, S) else bd (f_W_measureTo  S x2) fun r2 S3 => lp_W_worstDetour_20 x2 (fun (S13 : hs) (y14 : Int32) (y15 : Int32) => lp_W_worstDetour_5  n S13 y14 (x2 + (1 : Int32))) 1000 S3 x1 (0 : Int32))
def f_W_worstDetour  (S : hs)  : Option (Int32 × hs) := lp_W_worstDetour_5  1000 S (-3 : Int32) (0 : Int32)
theorem lo_W_worstDetour_20 (w : Wd) (d : Nat) (c : cx) {n0 z0 : Nat} {z : Int32 × hs}  {K0 : hs → Int32 → Int32 → Option (Int32 × hs)} (x2 : Int32)   (hK0 : ∀ (S : hs) (x1 : Int32) (x3 : Int32), K0 S x1 x3 = some z → J w (d + 5) m_W_worstDetour (n0, z0, some (.int z.1), mk c z.2) 70 [some (.ref 138), some (.int x1), some (.int x2), none] [] (mk c S)) :
    ∀ (n : Nat) (S : hs) (x1 : Int32) (x3 : Int32), lp_W_worstDetour_20 x2 K0 n S x1 x3 = some z → J w (d + 5) m_W_worstDetour (n0, z0, some (.int z.1), mk c z.2) 20 [some (.ref 138), some (.int x1), some (.int x2), some (.int x3)] [] (mk c S) := by
  intro n
  induction n with
  | zero => intro S x1 x3 H; cases H
  | succ n ih =>
    intro S x1 x3 H
    rw [lp_W_worstDetour_20] at H
    refine J.run b_W_worstDetour_20_3 k_W_worstDetour_20_3 rfl (And.intro (okO_st (S := S) rfl) (show J w (d + 5) m_W_worstDetour (n0, z0, some (.int z.1), mk c z.2) 25 [some (.ref 138), some (.int x1), some (.int x2), some (.int x3)] [.int (gI S 138 10), .int x3] (mk c S) from ?_))
    refine J.cge (tgt := 70) d_W_worstDetour_25 rfl (fun q5 => ?_) (fun q5 => ?_)
    · have H := ite_t H q5
      refine J.mask [true, true, true, false] ?_
      exact hK0 S x1 x3 H
    · have H := ite_f H q5
      obtain ⟨g6, H⟩ := ck_e H
      refine J.run b_W_worstDetour_28_5 k_W_worstDetour_28_5 rfl (And.intro (okO_st (S := S) rfl) (And.intro (okA_st (S := S) (n := 40) rfl g6) (show J w (d + 5) m_W_worstDetour (n0, z0, some (.int z.1), mk c z.2) 36 [some (.ref 138), some (.int x1), some (.int x2), some (.int x3)] [.int (1000000 : Int32), .int (gI S 144 (x3).toNatClampNeg)] (mk c S) from ?_)))
      refine J.cge (tgt := 64) d_W_worstDetour_36 rfl (fun q7 => ?_) (fun q7 => ?_)
      · have H := ite_t H q7
        refine J.run b_W_worstDetour_64_1 k_W_worstDetour_64_1 rfl (show J w (d + 5) m_W_worstDetour (n0, z0, some (.int z.1), mk c z.2) 67 [some (.ref 138), some (.int x1), some (.int x2), some (.int (x3 + (1 : Int32)))] [] (mk c S) from ?_)
        refine J.goto (tgt := 20) d_W_worstDetour_67 rfl ?_
        refine J.mask [true, true, true, true] ?_
        exact ih S x1 (x3 + (1 : Int32)) H
      · have H := ite_f H q7
        obtain ⟨g8, H⟩ := ck_e H
        obtain ⟨g9, H⟩ := ck_e H
        refine J.run b_W_worstDetour_39_15 k_W_worstDetour_39_15 rfl (And.intro (okO_st (S := S) rfl) (And.intro (okA_st (S := S) (n := 40) rfl g6) (And.intro (okO_st (S := S) rfl) (And.intro (okO_st (S := S) rfl) (And.intro (okA_st (S := S) (n := 40) rfl g6) (And.intro (okQ_st (S := S) (k := 23) (n := 12) rfl rfl g8) (And.intro (okA_row (S := S) (b := 147) (cnt := 12) (n := 12) rfl (inb_lt g8) g9) (show J w (d + 5) m_W_worstDetour (n0, z0, some (.int z.1), mk c z.2) 60 [some (.ref 138), some (.int x1), some (.int x2), some (.int x3)] [.int ((gI S 144 (x3).toNatClampNeg) - (gI S (147 + ((gI S 140 (x3).toNatClampNeg)).toNatClampNeg) (x2).toNatClampNeg)), .int x1] (mk c S) from ?_))))))))
        obtain ⟨r10, S11, h12, H⟩ := bd_e H
        refine J.callS (y := m_Ma_max) (av := [.int x1, .int ((gI S 144 (x3).toNatClampNeg) - (gI S (147 + ((gI S 140 (x3).toNatClampNeg)).toNatClampNeg) (x2).toNatClampNeg))]) (rest := []) l_W_151 d_W_worstDetour_60 (c_Ma_max w (d + 3) c  S x1 ((gI S 144 (x3).toNatClampNeg) - (gI S (147 + ((gI S 140 (x3).toNatClampNeg)).toNatClampNeg) (x2).toNatClampNeg)) h12) rfl (Nat.le_of_ble_eq_true rfl) ⟨Nat.le_refl _, Nat.le_refl _⟩ (show J w (d + 5) m_W_worstDetour (n0, z0, some (.int z.1), mk c z.2) 63 [some (.ref 138), some (.int x1), some (.int x2), some (.int x3)] [.int r10] (mk c S11) from ?_)
        refine J.run b_W_worstDetour_63_2 k_W_worstDetour_63_2 rfl (show J w (d + 5) m_W_worstDetour (n0, z0, some (.int z.1), mk c z.2) 67 [some (.ref 138), some (.int r10), some (.int x2), some (.int (x3 + (1 : Int32)))] [] (mk c S11) from ?_)
        refine J.goto (tgt := 20) d_W_worstDetour_67 rfl ?_
        refine J.mask [true, true, true, true] ?_
        exact ih S11 r10 (x3 + (1 : Int32)) H
theorem lo_W_worstDetour_5 (w : Wd) (d : Nat) (c : cx) {n0 z0 : Nat} {z : Int32 × hs}       :
    ∀ (n : Nat) (S : hs) (x1 : Int32) (x2 : Int32), lp_W_worstDetour_5  n S x1 x2 = some z → J w (d + 5) m_W_worstDetour (n0, z0, some (.int z.1), mk c z.2) 5 [some (.ref 138), some (.int x1), some (.int x2), none] [] (mk c S) := by
  intro n
  induction n with
  | zero => intro S x1 x2 H; cases H
  | succ n ih =>
    intro S x1 x2 H
    rw [lp_W_worstDetour_5] at H
    refine J.run b_W_worstDetour_5_3 k_W_worstDetour_5_3 rfl (And.intro (okO_st (S := S) rfl) (show J w (d + 5) m_W_worstDetour (n0, z0, some (.int z.1), mk c z.2) 10 [some (.ref 138), some (.int x1), some (.int x2), none] [.int (gI S 138 11), .int x2] (mk c S) from ?_))
    refine J.cge (tgt := 76) d_W_worstDetour_10 rfl (fun q1 => ?_) (fun q1 => ?_)
    · have H := ite_t H q1
      refine J.run b_W_worstDetour_76_1 k_W_worstDetour_76_1 rfl (show J w (d + 5) m_W_worstDetour (n0, z0, some (.int z.1), mk c z.2) 77 [some (.ref 138), some (.int x1), some (.int x2), none] [.int x1] (mk c S) from ?_)
      obtain rfl := some_e H
      exact J.iret d_W_worstDetour_77 rfl rfl
    · have H := ite_f H q1
      refine J.run b_W_worstDetour_13_2 k_W_worstDetour_13_2 rfl (show J w (d + 5) m_W_worstDetour (n0, z0, some (.int z.1), mk c z.2) 15 [some (.ref 138), some (.int x1), some (.int x2), none] [.int x2, .ref 138] (mk c S) from ?_)
      obtain ⟨r2, S3, h4, H⟩ := bd_e H
      refine J.callV (y := m_W_measureTo) (av := [.int x2]) (rest := []) (q := 138) l_W_147 d_W_worstDetour_15 (isC_st rfl rfl) (c_W_measureTo w (d + 0) c  S x2 h4) rfl (Nat.le_of_ble_eq_true rfl) ⟨Nat.le_refl _, Nat.le_refl _⟩ (show J w (d + 5) m_W_worstDetour (n0, z0, some (.int z.1), mk c z.2) 18 [some (.ref 138), some (.int x1), some (.int x2), none] [] (mk c S3) from ?_)
      refine J.run b_W_worstDetour_18_2 k_W_worstDetour_18_2 rfl (show J w (d + 5) m_W_worstDetour (n0, z0, some (.int z.1), mk c z.2) 20 [some (.ref 138), some (.int x1), some (.int x2), some (.int (0 : Int32))] [] (mk c S3) from ?_)
      refine J.mask [true, true, true, true] ?_
      refine lo_W_worstDetour_20 w d c x2 ?_ 1000 S3 x1 (0 : Int32) H
      · intro S13 y14 y15 H
        try dsimp only at H
        refine J.run b_W_worstDetour_70_1 k_W_worstDetour_70_1 rfl (show J w (d + 5) m_W_worstDetour (n0, z0, some (.int z.1), mk c z.2) 73 [some (.ref 138), some (.int y14), some (.int (x2 + (1 : Int32))), none] [] (mk c S13) from ?_)
        refine J.goto (tgt := 5) d_W_worstDetour_73 rfl ?_
        refine J.mask [true, true, true, false] ?_
        exact ih S13 y14 (x2 + (1 : Int32)) H
theorem c_W_worstDetour (w : Wd) (d : Nat) (c : cx)   (S : hs)   {z : Int32 × hs} (H : f_W_worstDetour S = some z) : Cl w (d + 5) m_W_worstDetour [.ref 138] (mk c S) (some (.int z.1)) (mk c z.2) := by
  refine Cl.of (Nat.le_refl _) (Nat.le_refl _) (by decide +kernel) (Nat.le_of_ble_eq_true rfl) ?_
  unfold f_W_worstDetour at H
  generalize hN (mk c S) = n0
  generalize hZ (mk c S) = z0
  show J w (d + 5) m_W_worstDetour (n0, z0, some (.int z.1), mk c z.2) 0 [some (.ref 138), none, none, none] [] (mk c S)
  refine J.run b_W_worstDetour_0_4 k_W_worstDetour_0_4 rfl (show J w (d + 5) m_W_worstDetour (n0, z0, some (.int z.1), mk c z.2) 5 [some (.ref 138), some (.int (-3 : Int32)), some (.int (0 : Int32)), none] [] (mk c S) from ?_)
  refine J.mask [true, true, true, false] ?_
  refine lo_W_worstDetour_5 w d c   1000 S (-3 : Int32) (0 : Int32) H
def b_W_bestToOpen_0_3 : List Ins := [(.aload_n 0, 0, 0, 0), (.aload_n 0, 0, 0, 0), (.getfield 39, 4, 8, 1)]
theorem k_W_bestToOpen_0_3 : bok m_W_bestToOpen 0 b_W_bestToOpen_0_3 = true := by decide +kernel
def b_W_bestToOpen_8_5 : List Ins := [(.istore_n 1, 0, 0, 0), (.bipush (-3), 0, 0, 0), (.istore_n 2, 0, 0, 0), (.iconst (0), 0, 0, 0), (.istore_n 3, 0, 0, 0)]
theorem k_W_bestToOpen_8_5 : bok m_W_bestToOpen 8 b_W_bestToOpen_8_5 = true := by decide +kernel
def b_W_bestToOpen_14_5 : List Ins := [(.iconst (2), 0, 0, 0), (.iload_n 3, 0, 0, 0), (.imul, 0, 0, 0), (.aload_n 0, 0, 0, 0), (.getfield 58, 4, 10, 0)]
theorem k_W_bestToOpen_14_5 : bok m_W_bestToOpen 14 b_W_bestToOpen_14_5 = true := by decide +kernel
def b_W_bestToOpen_79_1 : List Ins := [(.iload_n 2, 0, 0, 0)]
theorem k_W_bestToOpen_79_1 : bok m_W_bestToOpen 79 b_W_bestToOpen_79_1 = true := by decide +kernel
def b_W_bestToOpen_24_12 : List Ins := [(.aload_n 0, 0, 0, 0), (.getfield 43, 4, 9, 1), (.ldc2_w 157, 0, 3, 0), (.iconst (2), 0, 0, 0), (.iload_n 3, 0, 0, 0), (.imul, 0, 0, 0), (.lshl, 0, 0, 0), (.land, 0, 0, 0), (.lstore 4, 0, 0, 0), (.lload 4, 0, 0, 0), (.lconst 0, 0, 0, 0), (.lcmp, 0, 0, 0)]
theorem k_W_bestToOpen_24_12 : bok m_W_bestToOpen 24 b_W_bestToOpen_24_12 = true := by decide +kernel
def b_W_bestToOpen_49_5 : List Ins := [(.aload_n 0, 0, 0, 0), (.aload_n 0, 0, 0, 0), (.getfield 39, 4, 8, 1), (.lload 4, 0, 0, 0), (.lor, 0, 0, 0)]
theorem k_W_bestToOpen_49_5 : bok m_W_bestToOpen 49 b_W_bestToOpen_49_5 = true := by decide +kernel
def b_W_bestToOpen_60_3 : List Ins := [(.istore 6, 0, 0, 0), (.iload 6, 0, 0, 0), (.iload_n 1, 0, 0, 0)]
theorem k_W_bestToOpen_60_3 : bok m_W_bestToOpen 60 b_W_bestToOpen_60_3 = true := by decide +kernel
def b_W_bestToOpen_73_1 : List Ins := [(.iinc 3 (1), 0, 0, 0)]
theorem k_W_bestToOpen_73_1 : bok m_W_bestToOpen 73 b_W_bestToOpen_73_1 = true := by decide +kernel
def b_W_bestToOpen_68_5 : List Ins := [(.iload 6, 0, 0, 0), (.istore_n 1, 0, 0, 0), (.iload_n 3, 0, 0, 0), (.istore_n 2, 0, 0, 0), (.iinc 3 (1), 0, 0, 0)]
theorem k_W_bestToOpen_68_5 : bok m_W_bestToOpen 68 b_W_bestToOpen_68_5 = true := by decide +kernel
def b_W_bestToOpen_45_1 : List Ins := [(.iconst (0), 0, 0, 0)]
theorem k_W_bestToOpen_45_1 : bok m_W_bestToOpen 45 b_W_bestToOpen_45_1 = true := by decide +kernel
theorem d_W_bestToOpen_5 : decode m_W_bestToOpen.2.1 5 = .ok (.invokevirtual 154, 3) := by decide +kernel
theorem d_W_bestToOpen_21 : decode m_W_bestToOpen.2.1 21 = .ok (.if_icmp .ge (58), 3) := by decide +kernel
theorem d_W_bestToOpen_80 : decode m_W_bestToOpen.2.1 80 = .ok (.ireturn, 1) := by decide +kernel
theorem d_W_bestToOpen_42 : decode m_W_bestToOpen.2.1 42 = .ok (.ifCond .ne (7), 3) := by decide +kernel
theorem d_W_bestToOpen_57 : decode m_W_bestToOpen.2.1 57 = .ok (.invokevirtual 154, 3) := by decide +kernel
theorem d_W_bestToOpen_65 : decode m_W_bestToOpen.2.1 65 = .ok (.if_icmp .le (8), 3) := by decide +kernel
theorem d_W_bestToOpen_76 : decode m_W_bestToOpen.2.1 76 = .ok (.goto (-62), 3) := by decide +kernel
theorem d_W_bestToOpen_46 : decode m_W_bestToOpen.2.1 46 = .ok (.goto (14), 3) := by decide +kernel
def lp_W_bestToOpen_14    : Nat → hs → Int32 → Int32 → Int32 → Option (Int32 × hs)
  | 0, _, _, _, _ => none
  | n + 1, S, x1, x2, x3 => (if (gI S 138 10) ≤ ((2 : Int32) * x3) then some (x2, S) else (if (lg_cmp ((gJ S 138 9) &&& ((3 : Int64) <<< (((2 : Int32) * x3).toInt64 &&& 63))) (0 : Int64)) = 0 then (if (0 : Int32) ≤ x1 then lp_W_bestToOpen_14  n S x1 x2 (x3 + (1 : Int32)) else lp_W_bestToOpen_14  n S (0 : Int32) x3 (x3 + (1 : Int32))) else bd (f_W_countPairs  S ((gJ S 138 8) ||| ((gJ S 138 9) &&& ((3 : Int64) <<< (((2 : Int32) * x3).toInt64 &&& 63))))) fun r6 S7 => (if r6 ≤ x1 then lp_W_bestToOpen_14  n S7 x1 x2 (x3 + (1 : Int32)) else lp_W_bestToOpen_14  n S7 r6 x3 (x3 + (1 : Int32)))))
def f_W_bestToOpen  (S : hs)  : Option (Int32 × hs) := bd (f_W_countPairs  S (gJ S 138 8)) fun r1 S2 => lp_W_bestToOpen_14  1000 S2 r1 (-3 : Int32) (0 : Int32)
theorem lo_W_bestToOpen_14 (w : Wd) (d : Nat) (c : cx) {n0 z0 : Nat} {z : Int32 × hs}       :
    ∀ (n : Nat) (S : hs) (x1 : Int32) (x2 : Int32) (x3 : Int32), lp_W_bestToOpen_14  n S x1 x2 x3 = some z → J w (d + 5) m_W_bestToOpen (n0, z0, some (.int z.1), mk c z.2) 14 [some (.ref 138), some (.int x1), some (.int x2), some (.int x3), none, none, none] [] (mk c S) := by
  intro n
  induction n with
  | zero => intro S x1 x2 x3 H; cases H
  | succ n ih =>
    intro S x1 x2 x3 H
    rw [lp_W_bestToOpen_14] at H
    refine J.run b_W_bestToOpen_14_5 k_W_bestToOpen_14_5 rfl (And.intro (okO_st (S := S) rfl) (show J w (d + 5) m_W_bestToOpen (n0, z0, some (.int z.1), mk c z.2) 21 [some (.ref 138), some (.int x1), some (.int x2), some (.int x3), none, none, none] [.int (gI S 138 10), .int ((2 : Int32) * x3)] (mk c S) from ?_))
    refine J.cge (tgt := 79) d_W_bestToOpen_21 rfl (fun q4 => ?_) (fun q4 => ?_)
    · have H := ite_t H q4
      refine J.run b_W_bestToOpen_79_1 k_W_bestToOpen_79_1 rfl (show J w (d + 5) m_W_bestToOpen (n0, z0, some (.int z.1), mk c z.2) 80 [some (.ref 138), some (.int x1), some (.int x2), some (.int x3), none, none, none] [.int x2] (mk c S) from ?_)
      obtain rfl := some_e H
      exact J.iret d_W_bestToOpen_80 rfl rfl
    · have H := ite_f H q4
      refine J.run b_W_bestToOpen_24_12 k_W_bestToOpen_24_12 rfl (And.intro (okO_st (S := S) rfl) (show J w (d + 5) m_W_bestToOpen (n0, z0, some (.int z.1), mk c z.2) 42 [some (.ref 138), some (.int x1), some (.int x2), some (.int x3), some (.long ((gJ S 138 9) &&& ((3 : Int64) <<< (((2 : Int32) * x3).toInt64 &&& 63)))), none, none] [.int (lg_cmp ((gJ S 138 9) &&& ((3 : Int64) <<< (((2 : Int32) * x3).toInt64 &&& 63))) (0 : Int64))] (mk c S) from ?_))
      refine J.zne (tgt := 49) d_W_bestToOpen_42 rfl (fun q5 => ?_) (fun q5 => ?_)
      · have H := ite_f H q5
        refine J.run b_W_bestToOpen_49_5 k_W_bestToOpen_49_5 rfl (And.intro (okO_st (S := S) rfl) (show J w (d + 5) m_W_bestToOpen (n0, z0, some (.int z.1), mk c z.2) 57 [some (.ref 138), some (.int x1), some (.int x2), some (.int x3), some (.long ((gJ S 138 9) &&& ((3 : Int64) <<< (((2 : Int32) * x3).toInt64 &&& 63)))), none, none] [.long ((gJ S 138 8) ||| ((gJ S 138 9) &&& ((3 : Int64) <<< (((2 : Int32) * x3).toInt64 &&& 63)))), .ref 138] (mk c S) from ?_))
        obtain ⟨r6, S7, h8, H⟩ := bd_e H
        refine J.callV (y := m_W_countPairs) (av := [.long ((gJ S 138 8) ||| ((gJ S 138 9) &&& ((3 : Int64) <<< (((2 : Int32) * x3).toInt64 &&& 63))))]) (rest := []) (q := 138) l_W_154 d_W_bestToOpen_57 (isC_st rfl rfl) (c_W_countPairs w (d + 0) c  S ((gJ S 138 8) ||| ((gJ S 138 9) &&& ((3 : Int64) <<< (((2 : Int32) * x3).toInt64 &&& 63)))) h8) rfl (Nat.le_of_ble_eq_true rfl) ⟨Nat.le_refl _, Nat.le_refl _⟩ (show J w (d + 5) m_W_bestToOpen (n0, z0, some (.int z.1), mk c z.2) 60 [some (.ref 138), some (.int x1), some (.int x2), some (.int x3), some (.long ((gJ S 138 9) &&& ((3 : Int64) <<< (((2 : Int32) * x3).toInt64 &&& 63)))), none, none] [.int r6] (mk c S7) from ?_)
        refine J.run b_W_bestToOpen_60_3 k_W_bestToOpen_60_3 rfl (show J w (d + 5) m_W_bestToOpen (n0, z0, some (.int z.1), mk c z.2) 65 [some (.ref 138), some (.int x1), some (.int x2), some (.int x3), some (.long ((gJ S 138 9) &&& ((3 : Int64) <<< (((2 : Int32) * x3).toInt64 &&& 63)))), none, some (.int r6)] [.int x1, .int r6] (mk c S7) from ?_)
        refine J.cle (tgt := 73) d_W_bestToOpen_65 rfl (fun q9 => ?_) (fun q9 => ?_)
        · have H := ite_t H q9
          refine J.run b_W_bestToOpen_73_1 k_W_bestToOpen_73_1 rfl (show J w (d + 5) m_W_bestToOpen (n0, z0, some (.int z.1), mk c z.2) 76 [some (.ref 138), some (.int x1), some (.int x2), some (.int (x3 + (1 : Int32))), some (.long ((gJ S 138 9) &&& ((3 : Int64) <<< (((2 : Int32) * x3).toInt64 &&& 63)))), none, some (.int r6)] [] (mk c S7) from ?_)
          refine J.goto (tgt := 14) d_W_bestToOpen_76 rfl ?_
          refine J.mask [true, true, true, true, false, false, false] ?_
          exact ih S7 x1 x2 (x3 + (1 : Int32)) H
        · have H := ite_f H q9
          refine J.run b_W_bestToOpen_68_5 k_W_bestToOpen_68_5 rfl (show J w (d + 5) m_W_bestToOpen (n0, z0, some (.int z.1), mk c z.2) 76 [some (.ref 138), some (.int r6), some (.int x3), some (.int (x3 + (1 : Int32))), some (.long ((gJ S 138 9) &&& ((3 : Int64) <<< (((2 : Int32) * x3).toInt64 &&& 63)))), none, some (.int r6)] [] (mk c S7) from ?_)
          refine J.goto (tgt := 14) d_W_bestToOpen_76 rfl ?_
          refine J.mask [true, true, true, true, false, false, false] ?_
          exact ih S7 r6 x3 (x3 + (1 : Int32)) H
      · have H := ite_t H q5
        refine J.run b_W_bestToOpen_45_1 k_W_bestToOpen_45_1 rfl (show J w (d + 5) m_W_bestToOpen (n0, z0, some (.int z.1), mk c z.2) 46 [some (.ref 138), some (.int x1), some (.int x2), some (.int x3), some (.long ((gJ S 138 9) &&& ((3 : Int64) <<< (((2 : Int32) * x3).toInt64 &&& 63)))), none, none] [.int (0 : Int32)] (mk c S) from ?_)
        refine J.goto (tgt := 60) d_W_bestToOpen_46 rfl ?_
        refine J.run b_W_bestToOpen_60_3 k_W_bestToOpen_60_3 rfl (show J w (d + 5) m_W_bestToOpen (n0, z0, some (.int z.1), mk c z.2) 65 [some (.ref 138), some (.int x1), some (.int x2), some (.int x3), some (.long ((gJ S 138 9) &&& ((3 : Int64) <<< (((2 : Int32) * x3).toInt64 &&& 63)))), none, some (.int (0 : Int32))] [.int x1, .int (0 : Int32)] (mk c S) from ?_)
        refine J.cle (tgt := 73) d_W_bestToOpen_65 rfl (fun q10 => ?_) (fun q10 => ?_)
        · have H := ite_t H q10
          refine J.run b_W_bestToOpen_73_1 k_W_bestToOpen_73_1 rfl (show J w (d + 5) m_W_bestToOpen (n0, z0, some (.int z.1), mk c z.2) 76 [some (.ref 138), some (.int x1), some (.int x2), some (.int (x3 + (1 : Int32))), some (.long ((gJ S 138 9) &&& ((3 : Int64) <<< (((2 : Int32) * x3).toInt64 &&& 63)))), none, some (.int (0 : Int32))] [] (mk c S) from ?_)
          refine J.goto (tgt := 14) d_W_bestToOpen_76 rfl ?_
          refine J.mask [true, true, true, true, false, false, false] ?_
          exact ih S x1 x2 (x3 + (1 : Int32)) H
        · have H := ite_f H q10
          refine J.run b_W_bestToOpen_68_5 k_W_bestToOpen_68_5 rfl (show J w (d + 5) m_W_bestToOpen (n0, z0, some (.int z.1), mk c z.2) 76 [some (.ref 138), some (.int (0 : Int32)), some (.int x3), some (.int (x3 + (1 : Int32))), some (.long ((gJ S 138 9) &&& ((3 : Int64) <<< (((2 : Int32) * x3).toInt64 &&& 63)))), none, some (.int (0 : Int32))] [] (mk c S) from ?_)
          refine J.goto (tgt := 14) d_W_bestToOpen_76 rfl ?_
          refine J.mask [true, true, true, true, false, false, false] ?_
          exact ih S (0 : Int32) x3 (x3 + (1 : Int32)) H
theorem c_W_bestToOpen (w : Wd) (d : Nat) (c : cx)   (S : hs)   {z : Int32 × hs} (H : f_W_bestToOpen S = some z) : Cl w (d + 5) m_W_bestToOpen [.ref 138] (mk c S) (some (.int z.1)) (mk c z.2) := by
  refine Cl.of (Nat.le_refl _) (Nat.le_refl _) (by decide +kernel) (Nat.le_of_ble_eq_true rfl) ?_
  unfold f_W_bestToOpen at H
  generalize hN (mk c S) = n0
  generalize hZ (mk c S) = z0
  show J w (d + 5) m_W_bestToOpen (n0, z0, some (.int z.1), mk c z.2) 0 [some (.ref 138), none, none, none, none, none, none] [] (mk c S)
  refine J.run b_W_bestToOpen_0_3 k_W_bestToOpen_0_3 rfl (And.intro (okO_st (S := S) rfl) (show J w (d + 5) m_W_bestToOpen (n0, z0, some (.int z.1), mk c z.2) 5 [some (.ref 138), none, none, none, none, none, none] [.long (gJ S 138 8), .ref 138] (mk c S) from ?_))
  obtain ⟨r1, S2, h3, H⟩ := bd_e H
  refine J.callV (y := m_W_countPairs) (av := [.long (gJ S 138 8)]) (rest := []) (q := 138) l_W_154 d_W_bestToOpen_5 (isC_st rfl rfl) (c_W_countPairs w (d + 0) c  S (gJ S 138 8) h3) rfl (Nat.le_of_ble_eq_true rfl) ⟨Nat.le_refl _, Nat.le_refl _⟩ (show J w (d + 5) m_W_bestToOpen (n0, z0, some (.int z.1), mk c z.2) 8 [some (.ref 138), none, none, none, none, none, none] [.int r1] (mk c S2) from ?_)
  refine J.run b_W_bestToOpen_8_5 k_W_bestToOpen_8_5 rfl (show J w (d + 5) m_W_bestToOpen (n0, z0, some (.int z.1), mk c z.2) 14 [some (.ref 138), some (.int r1), some (.int (-3 : Int32)), some (.int (0 : Int32)), none, none, none] [] (mk c S2) from ?_)
  refine J.mask [true, true, true, true, false, false, false] ?_
  refine lo_W_bestToOpen_14 w d c   1000 S2 r1 (-3 : Int32) (0 : Int32) H
def b_W_raiseGreater_0_2 : List Ins := [(.iconst (0), 0, 0, 0), (.istore_n 2, 0, 0, 0)]
theorem k_W_raiseGreater_0_2 : bok m_W_raiseGreater 0 b_W_raiseGreater_0_2 = true := by decide +kernel
def b_W_raiseGreater_2_3 : List Ins := [(.iload_n 2, 0, 0, 0), (.aload_n 0, 0, 0, 0), (.getfield 64, 4, 11, 0)]
theorem k_W_raiseGreater_2_3 : bok m_W_raiseGreater 2 b_W_raiseGreater_2_3 = true := by decide +kernel
def b_W_raiseGreater_10_2 : List Ins := [(.aload_n 0, 0, 0, 0), (.iload_n 2, 0, 0, 0)]
theorem k_W_raiseGreater_10_2 : bok m_W_raiseGreater 10 b_W_raiseGreater_10_2 = true := by decide +kernel
def b_W_raiseGreater_15_1 : List Ins := [(.iload_n 1, 0, 0, 0)]
theorem k_W_raiseGreater_15_1 : bok m_W_raiseGreater 15 b_W_raiseGreater_15_1 = true := by decide +kernel
def b_W_raiseGreater_41_10 : List Ins := [(.iconst (0), 0, 0, 0), (.istore_n 3, 0, 0, 0), (.aload_n 0, 0, 0, 0), (.getfield 31, 4, 6, 2), (.iload_n 2, 0, 0, 0), (.aload_n 0, 0, 0, 0), (.getfield 31, 4, 6, 2), (.iload_n 2, 0, 0, 0), (.iaload, 0, 0, 0), (.iload_n 3, 0, 0, 0)]
theorem k_W_raiseGreater_41_10 : bok m_W_raiseGreater 41 b_W_raiseGreater_41_10 = true := by decide +kernel
def b_W_raiseGreater_62_2 : List Ins := [(.aload_n 0, 0, 0, 0), (.iload_n 1, 0, 0, 0)]
theorem k_W_raiseGreater_62_2 : bok m_W_raiseGreater 62 b_W_raiseGreater_62_2 = true := by decide +kernel
def b_W_raiseGreater_70_2 : List Ins := [(.iastore, 0, 0, 0), (.iinc 2 (1), 0, 0, 0)]
theorem k_W_raiseGreater_70_2 : bok m_W_raiseGreater 70 b_W_raiseGreater_70_2 = true := by decide +kernel
def b_W_raiseGreater_19_3 : List Ins := [(.iload_n 1, 0, 0, 0), (.aload_n 0, 0, 0, 0), (.getfield 58, 4, 10, 0)]
theorem k_W_raiseGreater_19_3 : bok m_W_raiseGreater 19 b_W_raiseGreater_19_3 = true := by decide +kernel
def b_W_raiseGreater_27_5 : List Ins := [(.aload_n 0, 0, 0, 0), (.getfield 15, 4, 1, 2), (.iload_n 1, 0, 0, 0), (.iaload, 0, 0, 0), (.iload_n 2, 0, 0, 0)]
theorem k_W_raiseGreater_27_5 : bok m_W_raiseGreater 27 b_W_raiseGreater_27_5 = true := by decide +kernel
def b_W_raiseGreater_37_1 : List Ins := [(.iconst (1), 0, 0, 0)]
theorem k_W_raiseGreater_37_1 : bok m_W_raiseGreater 37 b_W_raiseGreater_37_1 = true := by decide +kernel
def b_W_raiseGreater_42_9 : List Ins := [(.istore_n 3, 0, 0, 0), (.aload_n 0, 0, 0, 0), (.getfield 31, 4, 6, 2), (.iload_n 2, 0, 0, 0), (.aload_n 0, 0, 0, 0), (.getfield 31, 4, 6, 2), (.iload_n 2, 0, 0, 0), (.iaload, 0, 0, 0), (.iload_n 3, 0, 0, 0)]
theorem k_W_raiseGreater_42_9 : bok m_W_raiseGreater 42 b_W_raiseGreater_42_9 = true := by decide +kernel
def b_W_raiseGreater_58_1 : List Ins := [(.iconst (0), 0, 0, 0)]
theorem k_W_raiseGreater_58_1 : bok m_W_raiseGreater 58 b_W_raiseGreater_58_1 = true := by decide +kernel
theorem d_W_raiseGreater_7 : decode m_W_raiseGreater.2.1 7 = .ok (.if_icmp .ge (70), 3) := by decide +kernel
theorem d_W_raiseGreater_77 : decode m_W_raiseGreater.2.1 77 = .ok (.return_, 1) := by decide +kernel
theorem d_W_raiseGreater_12 : decode m_W_raiseGreater.2.1 12 = .ok (.invokevirtual 147, 3) := by decide +kernel
theorem d_W_raiseGreater_16 : decode m_W_raiseGreater.2.1 16 = .ok (.ifCond .lt (25), 3) := by decide +kernel
theorem d_W_raiseGreater_55 : decode m_W_raiseGreater.2.1 55 = .ok (.ifCond .eq (7), 3) := by decide +kernel
theorem d_W_raiseGreater_64 : decode m_W_raiseGreater.2.1 64 = .ok (.invokevirtual 108, 3) := by decide +kernel
theorem d_W_raiseGreater_67 : decode m_W_raiseGreater.2.1 67 = .ok (.invokestatic 151, 3) := by decide +kernel
theorem d_W_raiseGreater_74 : decode m_W_raiseGreater.2.1 74 = .ok (.goto (-72), 3) := by decide +kernel
theorem d_W_raiseGreater_24 : decode m_W_raiseGreater.2.1 24 = .ok (.if_icmp .ge (17), 3) := by decide +kernel
theorem d_W_raiseGreater_34 : decode m_W_raiseGreater.2.1 34 = .ok (.if_icmp .ne (7), 3) := by decide +kernel
theorem d_W_raiseGreater_38 : decode m_W_raiseGreater.2.1 38 = .ok (.goto (4), 3) := by decide +kernel
theorem d_W_raiseGreater_59 : decode m_W_raiseGreater.2.1 59 = .ok (.goto (8), 3) := by decide +kernel
def lp_W_raiseGreater_2 (x1 : Int32)   : Nat → hs → Int32 → Option (Int32 × hs)
  | 0, _, _ => none
  | n + 1, S, x2 => (if (gI S 138 11) ≤ x2 then some ((0 : Int32), S) else bd (f_W_measureTo  S x2) fun r2 S3 => (if x1 < 0 then ck (inb x2 12) (bd (f_W_leftFrom  S3 x1) fun r7 S8 => bd (f_Ma_max  S8 (gI S3 145 (x2).toNatClampNeg) r7) fun r10 S11 => lp_W_raiseGreater_2 x1 n (uI S11 145 (x2).toNatClampNeg r10) (x2 + (1 : Int32))) else (if (gI S3 138 10) ≤ x1 then ck (inb x2 12) (bd (f_W_leftFrom  S3 x1) fun r15 S16 => bd (f_Ma_max  S16 (gI S3 145 (x2).toNatClampNeg) r15) fun r18 S19 => lp_W_raiseGreater_2 x1 n (uI S19 145 (x2).toNatClampNeg r18) (x2 + (1 : Int32))) else ck (inb x1 40) ((if (gI S3 140 (x1).toNatClampNeg) = x2 then ck (inb x2 12) (bd (f_Ma_max  S3 (gI S3 145 (x2).toNatClampNeg) (0 : Int32)) fun r31 S32 => lp_W_raiseGreater_2 x1 n (uI S32 145 (x2).toNatClampNeg r31) (x2 + (1 : Int32))) else ck (inb x2 12) (bd (f_W_leftFrom  S3 x1) fun r24 S25 => bd (f_Ma_max  S25 (gI S3 145 (x2).toNatClampNeg) r24) fun r27 S28 => lp_W_raiseGreater_2 x1 n (uI S28 145 (x2).toNatClampNeg r27) (x2 + (1 : Int32))))))))
def f_W_raiseGreater  (S : hs) (x1 : Int32) : Option (Int32 × hs) := lp_W_raiseGreater_2 x1 1000 S (0 : Int32)
theorem lo_W_raiseGreater_2 (w : Wd) (d : Nat) (c : cx) {n0 z0 : Nat} {z : Int32 × hs}   (x1 : Int32)    :
    ∀ (n : Nat) (S : hs) (x2 : Int32), lp_W_raiseGreater_2 x1 n S x2 = some z → J w (d + 5) m_W_raiseGreater (n0, z0, none, mk c z.2) 2 [some (.ref 138), some (.int x1), some (.int x2), none] [] (mk c S) := by
  intro n
  induction n with
  | zero => intro S x2 H; cases H
  | succ n ih =>
    intro S x2 H
    rw [lp_W_raiseGreater_2] at H
    refine J.run b_W_raiseGreater_2_3 k_W_raiseGreater_2_3 rfl (And.intro (okO_st (S := S) rfl) (show J w (d + 5) m_W_raiseGreater (n0, z0, none, mk c z.2) 7 [some (.ref 138), some (.int x1), some (.int x2), none] [.int (gI S 138 11), .int x2] (mk c S) from ?_))
    refine J.cge (tgt := 77) d_W_raiseGreater_7 rfl (fun q1 => ?_) (fun q1 => ?_)
    · have H := ite_t H q1
      obtain rfl := some_e H
      exact J.vret d_W_raiseGreater_77 rfl rfl
    · have H := ite_f H q1
      refine J.run b_W_raiseGreater_10_2 k_W_raiseGreater_10_2 rfl (show J w (d + 5) m_W_raiseGreater (n0, z0, none, mk c z.2) 12 [some (.ref 138), some (.int x1), some (.int x2), none] [.int x2, .ref 138] (mk c S) from ?_)
      obtain ⟨r2, S3, h4, H⟩ := bd_e H
      refine J.callV (y := m_W_measureTo) (av := [.int x2]) (rest := []) (q := 138) l_W_147 d_W_raiseGreater_12 (isC_st rfl rfl) (c_W_measureTo w (d + 0) c  S x2 h4) rfl (Nat.le_of_ble_eq_true rfl) ⟨Nat.le_refl _, Nat.le_refl _⟩ (show J w (d + 5) m_W_raiseGreater (n0, z0, none, mk c z.2) 15 [some (.ref 138), some (.int x1), some (.int x2), none] [] (mk c S3) from ?_)
      refine J.run b_W_raiseGreater_15_1 k_W_raiseGreater_15_1 rfl (show J w (d + 5) m_W_raiseGreater (n0, z0, none, mk c z.2) 16 [some (.ref 138), some (.int x1), some (.int x2), none] [.int x1] (mk c S3) from ?_)
      refine J.zlt (tgt := 41) d_W_raiseGreater_16 rfl (fun q5 => ?_) (fun q5 => ?_)
      · have H := ite_t H q5
        obtain ⟨g6, H⟩ := ck_e H
        refine J.run b_W_raiseGreater_41_10 k_W_raiseGreater_41_10 rfl (And.intro (okO_st (S := S3) rfl) (And.intro (okO_st (S := S3) rfl) (And.intro (okA_st (S := S3) (n := 12) rfl g6) (show J w (d + 5) m_W_raiseGreater (n0, z0, none, mk c z.2) 55 [some (.ref 138), some (.int x1), some (.int x2), some (.int (0 : Int32))] [.int (0 : Int32), .int (gI S3 145 (x2).toNatClampNeg), .int x2, .ref 145] (mk c S3) from ?_))))
        refine J.zeq (tgt := 62) d_W_raiseGreater_55 rfl (fun _ => ?_) (fun q => absurd (by decide) q)
        refine J.run b_W_raiseGreater_62_2 k_W_raiseGreater_62_2 rfl (show J w (d + 5) m_W_raiseGreater (n0, z0, none, mk c z.2) 64 [some (.ref 138), some (.int x1), some (.int x2), some (.int (0 : Int32))] [.int x1, .ref 138, .int (gI S3 145 (x2).toNatClampNeg), .int x2, .ref 145] (mk c S3) from ?_)
        obtain ⟨r7, S8, h9, H⟩ := bd_e H
        refine J.callV (y := m_W_leftFrom) (av := [.int x1]) (rest := [.int (gI S3 145 (x2).toNatClampNeg), .int x2, .ref 145]) (q := 138) l_W_108 d_W_raiseGreater_64 (isC_st rfl rfl) (c_W_leftFrom w (d + 3) c  S3 x1 h9) rfl (Nat.le_of_ble_eq_true rfl) ⟨Nat.le_refl _, Nat.le_refl _⟩ (show J w (d + 5) m_W_raiseGreater (n0, z0, none, mk c z.2) 67 [some (.ref 138), some (.int x1), some (.int x2), some (.int (0 : Int32))] [.int r7, .int (gI S3 145 (x2).toNatClampNeg), .int x2, .ref 145] (mk c S8) from ?_)
        obtain ⟨r10, S11, h12, H⟩ := bd_e H
        refine J.callS (y := m_Ma_max) (av := [.int (gI S3 145 (x2).toNatClampNeg), .int r7]) (rest := [.int x2, .ref 145]) l_W_151 d_W_raiseGreater_67 (c_Ma_max w (d + 3) c  S8 (gI S3 145 (x2).toNatClampNeg) r7 h12) rfl (Nat.le_of_ble_eq_true rfl) ⟨Nat.le_refl _, Nat.le_refl _⟩ (show J w (d + 5) m_W_raiseGreater (n0, z0, none, mk c z.2) 70 [some (.ref 138), some (.int x1), some (.int x2), some (.int (0 : Int32))] [.int r10, .int x2, .ref 145] (mk c S11) from ?_)
        refine J.run b_W_raiseGreater_70_2 k_W_raiseGreater_70_2 rfl (And.intro (okB_st (S := S11) (n := 12) rfl g6) (show J w (d + 5) m_W_raiseGreater (n0, z0, none, mk c z.2) 74 [some (.ref 138), some (.int x1), some (.int (x2 + (1 : Int32))), some (.int (0 : Int32))] [] (mk c (uI S11 145 (x2).toNatClampNeg r10)) from ?_))
        refine J.goto (tgt := 2) d_W_raiseGreater_74 rfl ?_
        refine J.mask [true, true, true, false] ?_
        exact ih (uI S11 145 (x2).toNatClampNeg r10) (x2 + (1 : Int32)) H
      · have H := ite_f H q5
        refine J.run b_W_raiseGreater_19_3 k_W_raiseGreater_19_3 rfl (And.intro (okO_st (S := S3) rfl) (show J w (d + 5) m_W_raiseGreater (n0, z0, none, mk c z.2) 24 [some (.ref 138), some (.int x1), some (.int x2), none] [.int (gI S3 138 10), .int x1] (mk c S3) from ?_))
        refine J.cge (tgt := 41) d_W_raiseGreater_24 rfl (fun q13 => ?_) (fun q13 => ?_)
        · have H := ite_t H q13
          obtain ⟨g14, H⟩ := ck_e H
          refine J.run b_W_raiseGreater_41_10 k_W_raiseGreater_41_10 rfl (And.intro (okO_st (S := S3) rfl) (And.intro (okO_st (S := S3) rfl) (And.intro (okA_st (S := S3) (n := 12) rfl g14) (show J w (d + 5) m_W_raiseGreater (n0, z0, none, mk c z.2) 55 [some (.ref 138), some (.int x1), some (.int x2), some (.int (0 : Int32))] [.int (0 : Int32), .int (gI S3 145 (x2).toNatClampNeg), .int x2, .ref 145] (mk c S3) from ?_))))
          refine J.zeq (tgt := 62) d_W_raiseGreater_55 rfl (fun _ => ?_) (fun q => absurd (by decide) q)
          refine J.run b_W_raiseGreater_62_2 k_W_raiseGreater_62_2 rfl (show J w (d + 5) m_W_raiseGreater (n0, z0, none, mk c z.2) 64 [some (.ref 138), some (.int x1), some (.int x2), some (.int (0 : Int32))] [.int x1, .ref 138, .int (gI S3 145 (x2).toNatClampNeg), .int x2, .ref 145] (mk c S3) from ?_)
          obtain ⟨r15, S16, h17, H⟩ := bd_e H
          refine J.callV (y := m_W_leftFrom) (av := [.int x1]) (rest := [.int (gI S3 145 (x2).toNatClampNeg), .int x2, .ref 145]) (q := 138) l_W_108 d_W_raiseGreater_64 (isC_st rfl rfl) (c_W_leftFrom w (d + 3) c  S3 x1 h17) rfl (Nat.le_of_ble_eq_true rfl) ⟨Nat.le_refl _, Nat.le_refl _⟩ (show J w (d + 5) m_W_raiseGreater (n0, z0, none, mk c z.2) 67 [some (.ref 138), some (.int x1), some (.int x2), some (.int (0 : Int32))] [.int r15, .int (gI S3 145 (x2).toNatClampNeg), .int x2, .ref 145] (mk c S16) from ?_)
          obtain ⟨r18, S19, h20, H⟩ := bd_e H
          refine J.callS (y := m_Ma_max) (av := [.int (gI S3 145 (x2).toNatClampNeg), .int r15]) (rest := [.int x2, .ref 145]) l_W_151 d_W_raiseGreater_67 (c_Ma_max w (d + 3) c  S16 (gI S3 145 (x2).toNatClampNeg) r15 h20) rfl (Nat.le_of_ble_eq_true rfl) ⟨Nat.le_refl _, Nat.le_refl _⟩ (show J w (d + 5) m_W_raiseGreater (n0, z0, none, mk c z.2) 70 [some (.ref 138), some (.int x1), some (.int x2), some (.int (0 : Int32))] [.int r18, .int x2, .ref 145] (mk c S19) from ?_)
          refine J.run b_W_raiseGreater_70_2 k_W_raiseGreater_70_2 rfl (And.intro (okB_st (S := S19) (n := 12) rfl g14) (show J w (d + 5) m_W_raiseGreater (n0, z0, none, mk c z.2) 74 [some (.ref 138), some (.int x1), some (.int (x2 + (1 : Int32))), some (.int (0 : Int32))] [] (mk c (uI S19 145 (x2).toNatClampNeg r18)) from ?_))
          refine J.goto (tgt := 2) d_W_raiseGreater_74 rfl ?_
          refine J.mask [true, true, true, false] ?_
          exact ih (uI S19 145 (x2).toNatClampNeg r18) (x2 + (1 : Int32)) H
        · have H := ite_f H q13
          obtain ⟨g21, H⟩ := ck_e H
          refine J.run b_W_raiseGreater_27_5 k_W_raiseGreater_27_5 rfl (And.intro (okO_st (S := S3) rfl) (And.intro (okA_st (S := S3) (n := 40) rfl g21) (show J w (d + 5) m_W_raiseGreater (n0, z0, none, mk c z.2) 34 [some (.ref 138), some (.int x1), some (.int x2), none] [.int x2, .int (gI S3 140 (x1).toNatClampNeg)] (mk c S3) from ?_)))
          refine J.cne (tgt := 41) d_W_raiseGreater_34 rfl (fun q22 => ?_) (fun q22 => ?_)
          · have H := ite_f H q22
            obtain ⟨g23, H⟩ := ck_e H
            refine J.run b_W_raiseGreater_41_10 k_W_raiseGreater_41_10 rfl (And.intro (okO_st (S := S3) rfl) (And.intro (okO_st (S := S3) rfl) (And.intro (okA_st (S := S3) (n := 12) rfl g23) (show J w (d + 5) m_W_raiseGreater (n0, z0, none, mk c z.2) 55 [some (.ref 138), some (.int x1), some (.int x2), some (.int (0 : Int32))] [.int (0 : Int32), .int (gI S3 145 (x2).toNatClampNeg), .int x2, .ref 145] (mk c S3) from ?_))))
            refine J.zeq (tgt := 62) d_W_raiseGreater_55 rfl (fun _ => ?_) (fun q => absurd (by decide) q)
            refine J.run b_W_raiseGreater_62_2 k_W_raiseGreater_62_2 rfl (show J w (d + 5) m_W_raiseGreater (n0, z0, none, mk c z.2) 64 [some (.ref 138), some (.int x1), some (.int x2), some (.int (0 : Int32))] [.int x1, .ref 138, .int (gI S3 145 (x2).toNatClampNeg), .int x2, .ref 145] (mk c S3) from ?_)
            obtain ⟨r24, S25, h26, H⟩ := bd_e H
            refine J.callV (y := m_W_leftFrom) (av := [.int x1]) (rest := [.int (gI S3 145 (x2).toNatClampNeg), .int x2, .ref 145]) (q := 138) l_W_108 d_W_raiseGreater_64 (isC_st rfl rfl) (c_W_leftFrom w (d + 3) c  S3 x1 h26) rfl (Nat.le_of_ble_eq_true rfl) ⟨Nat.le_refl _, Nat.le_refl _⟩ (show J w (d + 5) m_W_raiseGreater (n0, z0, none, mk c z.2) 67 [some (.ref 138), some (.int x1), some (.int x2), some (.int (0 : Int32))] [.int r24, .int (gI S3 145 (x2).toNatClampNeg), .int x2, .ref 145] (mk c S25) from ?_)
            obtain ⟨r27, S28, h29, H⟩ := bd_e H
            refine J.callS (y := m_Ma_max) (av := [.int (gI S3 145 (x2).toNatClampNeg), .int r24]) (rest := [.int x2, .ref 145]) l_W_151 d_W_raiseGreater_67 (c_Ma_max w (d + 3) c  S25 (gI S3 145 (x2).toNatClampNeg) r24 h29) rfl (Nat.le_of_ble_eq_true rfl) ⟨Nat.le_refl _, Nat.le_refl _⟩ (show J w (d + 5) m_W_raiseGreater (n0, z0, none, mk c z.2) 70 [some (.ref 138), some (.int x1), some (.int x2), some (.int (0 : Int32))] [.int r27, .int x2, .ref 145] (mk c S28) from ?_)
            refine J.run b_W_raiseGreater_70_2 k_W_raiseGreater_70_2 rfl (And.intro (okB_st (S := S28) (n := 12) rfl g23) (show J w (d + 5) m_W_raiseGreater (n0, z0, none, mk c z.2) 74 [some (.ref 138), some (.int x1), some (.int (x2 + (1 : Int32))), some (.int (0 : Int32))] [] (mk c (uI S28 145 (x2).toNatClampNeg r27)) from ?_))
            refine J.goto (tgt := 2) d_W_raiseGreater_74 rfl ?_
            refine J.mask [true, true, true, false] ?_
            exact ih (uI S28 145 (x2).toNatClampNeg r27) (x2 + (1 : Int32)) H
          · have H := ite_t H q22
            refine J.run b_W_raiseGreater_37_1 k_W_raiseGreater_37_1 rfl (show J w (d + 5) m_W_raiseGreater (n0, z0, none, mk c z.2) 38 [some (.ref 138), some (.int x1), some (.int x2), none] [.int (1 : Int32)] (mk c S3) from ?_)
            refine J.goto (tgt := 42) d_W_raiseGreater_38 rfl ?_
            obtain ⟨g30, H⟩ := ck_e H
            refine J.run b_W_raiseGreater_42_9 k_W_raiseGreater_42_9 rfl (And.intro (okO_st (S := S3) rfl) (And.intro (okO_st (S := S3) rfl) (And.intro (okA_st (S := S3) (n := 12) rfl g30) (show J w (d + 5) m_W_raiseGreater (n0, z0, none, mk c z.2) 55 [some (.ref 138), some (.int x1), some (.int x2), some (.int (1 : Int32))] [.int (1 : Int32), .int (gI S3 145 (x2).toNatClampNeg), .int x2, .ref 145] (mk c S3) from ?_))))
            refine J.zeq (tgt := 62) d_W_raiseGreater_55 rfl (fun q => absurd q (by decide)) (fun _ => ?_)
            refine J.run b_W_raiseGreater_58_1 k_W_raiseGreater_58_1 rfl (show J w (d + 5) m_W_raiseGreater (n0, z0, none, mk c z.2) 59 [some (.ref 138), some (.int x1), some (.int x2), some (.int (1 : Int32))] [.int (0 : Int32), .int (gI S3 145 (x2).toNatClampNeg), .int x2, .ref 145] (mk c S3) from ?_)
            refine J.goto (tgt := 67) d_W_raiseGreater_59 rfl ?_
            obtain ⟨r31, S32, h33, H⟩ := bd_e H
            refine J.callS (y := m_Ma_max) (av := [.int (gI S3 145 (x2).toNatClampNeg), .int (0 : Int32)]) (rest := [.int x2, .ref 145]) l_W_151 d_W_raiseGreater_67 (c_Ma_max w (d + 3) c  S3 (gI S3 145 (x2).toNatClampNeg) (0 : Int32) h33) rfl (Nat.le_of_ble_eq_true rfl) ⟨Nat.le_refl _, Nat.le_refl _⟩ (show J w (d + 5) m_W_raiseGreater (n0, z0, none, mk c z.2) 70 [some (.ref 138), some (.int x1), some (.int x2), some (.int (1 : Int32))] [.int r31, .int x2, .ref 145] (mk c S32) from ?_)
            refine J.run b_W_raiseGreater_70_2 k_W_raiseGreater_70_2 rfl (And.intro (okB_st (S := S32) (n := 12) rfl g30) (show J w (d + 5) m_W_raiseGreater (n0, z0, none, mk c z.2) 74 [some (.ref 138), some (.int x1), some (.int (x2 + (1 : Int32))), some (.int (1 : Int32))] [] (mk c (uI S32 145 (x2).toNatClampNeg r31)) from ?_))
            refine J.goto (tgt := 2) d_W_raiseGreater_74 rfl ?_
            refine J.mask [true, true, true, false] ?_
            exact ih (uI S32 145 (x2).toNatClampNeg r31) (x2 + (1 : Int32)) H
theorem c_W_raiseGreater (w : Wd) (d : Nat) (c : cx)   (S : hs) (x1 : Int32)  {z : Int32 × hs} (H : f_W_raiseGreater S x1 = some z) : Cl w (d + 5) m_W_raiseGreater [.ref 138, .int x1] (mk c S) (none) (mk c z.2) := by
  refine Cl.of (Nat.le_refl _) (Nat.le_refl _) (by decide +kernel) (Nat.le_of_ble_eq_true rfl) ?_
  unfold f_W_raiseGreater at H
  generalize hN (mk c S) = n0
  generalize hZ (mk c S) = z0
  show J w (d + 5) m_W_raiseGreater (n0, z0, none, mk c z.2) 0 [some (.ref 138), some (.int x1), none, none] [] (mk c S)
  refine J.run b_W_raiseGreater_0_2 k_W_raiseGreater_0_2 rfl (show J w (d + 5) m_W_raiseGreater (n0, z0, none, mk c z.2) 2 [some (.ref 138), some (.int x1), some (.int (0 : Int32)), none] [] (mk c S) from ?_)
  refine J.mask [true, true, true, false] ?_
  refine lo_W_raiseGreater_2 w d c x1  1000 S (0 : Int32) H
def b_W_meetingPlace_0_6 : List Ins := [(.ldc 93, 0, 1000000, 0), (.istore_n 1, 0, 0, 0), (.bipush (-3), 0, 0, 0), (.istore_n 2, 0, 0, 0), (.iconst (0), 0, 0, 0), (.istore_n 3, 0, 0, 0)]
theorem k_W_meetingPlace_0_6 : bok m_W_meetingPlace 0 b_W_meetingPlace_0_6 = true := by decide +kernel
def b_W_meetingPlace_8_3 : List Ins := [(.iload_n 3, 0, 0, 0), (.aload_n 0, 0, 0, 0), (.getfield 64, 4, 11, 0)]
theorem k_W_meetingPlace_8_3 : bok m_W_meetingPlace 8 b_W_meetingPlace_8_3 = true := by decide +kernel
def b_W_meetingPlace_41_1 : List Ins := [(.iload_n 2, 0, 0, 0)]
theorem k_W_meetingPlace_41_1 : bok m_W_meetingPlace 41 b_W_meetingPlace_41_1 = true := by decide +kernel
def b_W_meetingPlace_16_5 : List Ins := [(.aload_n 0, 0, 0, 0), (.getfield 31, 4, 6, 2), (.iload_n 3, 0, 0, 0), (.iaload, 0, 0, 0), (.iload_n 1, 0, 0, 0)]
theorem k_W_meetingPlace_16_5 : bok m_W_meetingPlace 16 b_W_meetingPlace_16_5 = true := by decide +kernel
def b_W_meetingPlace_35_1 : List Ins := [(.iinc 3 (1), 0, 0, 0)]
theorem k_W_meetingPlace_35_1 : bok m_W_meetingPlace 35 b_W_meetingPlace_35_1 = true := by decide +kernel
def b_W_meetingPlace_26_8 : List Ins := [(.aload_n 0, 0, 0, 0), (.getfield 31, 4, 6, 2), (.iload_n 3, 0, 0, 0), (.iaload, 0, 0, 0), (.istore_n 1, 0, 0, 0), (.iload_n 3, 0, 0, 0), (.istore_n 2, 0, 0, 0), (.iinc 3 (1), 0, 0, 0)]
theorem k_W_meetingPlace_26_8 : bok m_W_meetingPlace 26 b_W_meetingPlace_26_8 = true := by decide +kernel
theorem d_W_meetingPlace_13 : decode m_W_meetingPlace.2.1 13 = .ok (.if_icmp .ge (28), 3) := by decide +kernel
theorem d_W_meetingPlace_42 : decode m_W_meetingPlace.2.1 42 = .ok (.ireturn, 1) := by decide +kernel
theorem d_W_meetingPlace_23 : decode m_W_meetingPlace.2.1 23 = .ok (.if_icmp .ge (12), 3) := by decide +kernel
theorem d_W_meetingPlace_38 : decode m_W_meetingPlace.2.1 38 = .ok (.goto (-30), 3) := by decide +kernel
def lp_W_meetingPlace_8    : Nat → hs → Int32 → Int32 → Int32 → Option (Int32 × hs)
  | 0, _, _, _, _ => none
  | n + 1, S, x1, x2, x3 => (if (gI S 138 11) ≤ x3 then some (x2, S) else ck (inb x3 12) ((if x1 ≤ (gI S 145 (x3).toNatClampNeg) then lp_W_meetingPlace_8  n S x1 x2 (x3 + (1 : Int32)) else lp_W_meetingPlace_8  n S (gI S 145 (x3).toNatClampNeg) x3 (x3 + (1 : Int32)))))
def f_W_meetingPlace  (S : hs)  : Option (Int32 × hs) := lp_W_meetingPlace_8  1000 S (1000000 : Int32) (-3 : Int32) (0 : Int32)
theorem lo_W_meetingPlace_8 (w : Wd) (d : Nat) (c : cx) {n0 z0 : Nat} {z : Int32 × hs}       :
    ∀ (n : Nat) (S : hs) (x1 : Int32) (x2 : Int32) (x3 : Int32), lp_W_meetingPlace_8  n S x1 x2 x3 = some z → J w (d + 1) m_W_meetingPlace (n0, z0, some (.int z.1), mk c z.2) 8 [some (.ref 138), some (.int x1), some (.int x2), some (.int x3)] [] (mk c S) := by
  intro n
  induction n with
  | zero => intro S x1 x2 x3 H; cases H
  | succ n ih =>
    intro S x1 x2 x3 H
    rw [lp_W_meetingPlace_8] at H
    refine J.run b_W_meetingPlace_8_3 k_W_meetingPlace_8_3 rfl (And.intro (okO_st (S := S) rfl) (show J w (d + 1) m_W_meetingPlace (n0, z0, some (.int z.1), mk c z.2) 13 [some (.ref 138), some (.int x1), some (.int x2), some (.int x3)] [.int (gI S 138 11), .int x3] (mk c S) from ?_))
    refine J.cge (tgt := 41) d_W_meetingPlace_13 rfl (fun q1 => ?_) (fun q1 => ?_)
    · have H := ite_t H q1
      refine J.run b_W_meetingPlace_41_1 k_W_meetingPlace_41_1 rfl (show J w (d + 1) m_W_meetingPlace (n0, z0, some (.int z.1), mk c z.2) 42 [some (.ref 138), some (.int x1), some (.int x2), some (.int x3)] [.int x2] (mk c S) from ?_)
      obtain rfl := some_e H
      exact J.iret d_W_meetingPlace_42 rfl rfl
    · have H := ite_f H q1
      obtain ⟨g2, H⟩ := ck_e H
      refine J.run b_W_meetingPlace_16_5 k_W_meetingPlace_16_5 rfl (And.intro (okO_st (S := S) rfl) (And.intro (okA_st (S := S) (n := 12) rfl g2) (show J w (d + 1) m_W_meetingPlace (n0, z0, some (.int z.1), mk c z.2) 23 [some (.ref 138), some (.int x1), some (.int x2), some (.int x3)] [.int x1, .int (gI S 145 (x3).toNatClampNeg)] (mk c S) from ?_)))
      refine J.cge (tgt := 35) d_W_meetingPlace_23 rfl (fun q3 => ?_) (fun q3 => ?_)
      · have H := ite_t H q3
        refine J.run b_W_meetingPlace_35_1 k_W_meetingPlace_35_1 rfl (show J w (d + 1) m_W_meetingPlace (n0, z0, some (.int z.1), mk c z.2) 38 [some (.ref 138), some (.int x1), some (.int x2), some (.int (x3 + (1 : Int32)))] [] (mk c S) from ?_)
        refine J.goto (tgt := 8) d_W_meetingPlace_38 rfl ?_
        refine J.mask [true, true, true, true] ?_
        exact ih S x1 x2 (x3 + (1 : Int32)) H
      · have H := ite_f H q3
        refine J.run b_W_meetingPlace_26_8 k_W_meetingPlace_26_8 rfl (And.intro (okO_st (S := S) rfl) (And.intro (okA_st (S := S) (n := 12) rfl g2) (show J w (d + 1) m_W_meetingPlace (n0, z0, some (.int z.1), mk c z.2) 38 [some (.ref 138), some (.int (gI S 145 (x3).toNatClampNeg)), some (.int x3), some (.int (x3 + (1 : Int32)))] [] (mk c S) from ?_)))
        refine J.goto (tgt := 8) d_W_meetingPlace_38 rfl ?_
        refine J.mask [true, true, true, true] ?_
        exact ih S (gI S 145 (x3).toNatClampNeg) x3 (x3 + (1 : Int32)) H
theorem c_W_meetingPlace (w : Wd) (d : Nat) (c : cx)   (S : hs)   {z : Int32 × hs} (H : f_W_meetingPlace S = some z) : Cl w (d + 1) m_W_meetingPlace [.ref 138] (mk c S) (some (.int z.1)) (mk c z.2) := by
  refine Cl.of (Nat.le_refl _) (Nat.le_refl _) (by decide +kernel) (Nat.le_of_ble_eq_true rfl) ?_
  unfold f_W_meetingPlace at H
  generalize hN (mk c S) = n0
  generalize hZ (mk c S) = z0
  show J w (d + 1) m_W_meetingPlace (n0, z0, some (.int z.1), mk c z.2) 0 [some (.ref 138), none, none, none] [] (mk c S)
  refine J.run b_W_meetingPlace_0_6 k_W_meetingPlace_0_6 rfl (show J w (d + 1) m_W_meetingPlace (n0, z0, some (.int z.1), mk c z.2) 8 [some (.ref 138), some (.int (1000000 : Int32)), some (.int (-3 : Int32)), some (.int (0 : Int32))] [] (mk c S) from ?_)
  refine J.mask [true, true, true, true] ?_
  refine lo_W_meetingPlace_8 w d c   1000 S (1000000 : Int32) (-3 : Int32) (0 : Int32) H
