/-! LawReader -/
def b_R_takeIn_0_2 : List Ins := [(.iconst (0), 0, 0, 0), (.istore 4, 0, 0, 0)]
theorem k_R_takeIn_0_2 : bok m_R_takeIn 0 b_R_takeIn_0_2 = true := by decide +kernel
def b_R_takeIn_3_2 : List Ins := [(.iload 4, 0, 0, 0), (.iload_n 3, 0, 0, 0)]
theorem k_R_takeIn_3_2 : bok m_R_takeIn 3 b_R_takeIn_3_2 = true := by decide +kernel
def b_R_takeIn_53_2 : List Ins := [(.aload_n 0, 0, 0, 0), (.getfield 29, 3, 2, 0)]
theorem k_R_takeIn_53_2 : bok m_R_takeIn 53 b_R_takeIn_53_2 = true := by decide +kernel
def b_R_takeIn_9_3 : List Ins := [(.aload_n 0, 0, 0, 0), (.getfield 29, 3, 2, 0), (.sipush (200), 0, 0, 0)]
theorem k_R_takeIn_9_3 : bok m_R_takeIn 9 b_R_takeIn_9_3 = true := by decide +kernel
def b_R_takeIn_19_19 : List Ins := [(.aload_n 0, 0, 0, 0), (.getfield 18, 3, 1, 2), (.aload_n 0, 0, 0, 0), (.getfield 29, 3, 2, 0), (.lload_n 1, 0, 0, 0), (.bipush (8), 0, 0, 0), (.iload 4, 0, 0, 0), (.imul, 0, 0, 0), (.lushr, 0, 0, 0), (.l2i, 0, 0, 0), (.i2b, 0, 0, 0), (.bastore, 0, 0, 0), (.aload_n 0, 0, 0, 0), (.dup, 0, 0, 0), (.getfield 29, 3, 2, 0), (.iconst (1), 0, 0, 0), (.iadd, 0, 0, 0), (.putfield 29, 3, 2, 0), (.iinc 4 (1), 0, 0, 0)]
theorem k_R_takeIn_19_19 : bok m_R_takeIn 19 b_R_takeIn_19_19 = true := by decide +kernel
theorem d_R_takeIn_6 : decode m_R_takeIn.2.1 6 = .ok (.if_icmp .ge (47), 3) := by decide +kernel
theorem d_R_takeIn_57 : decode m_R_takeIn.2.1 57 = .ok (.ireturn, 1) := by decide +kernel
theorem d_R_takeIn_16 : decode m_R_takeIn.2.1 16 = .ok (.if_icmp .ge (37), 3) := by decide +kernel
theorem d_R_takeIn_50 : decode m_R_takeIn.2.1 50 = .ok (.goto (-47), 3) := by decide +kernel
def lp_R_takeIn_3 (x1 : Int64) (x3 : Int32)   : Nat → hs → Int32 → Option (Int32 × hs)
  | 0, _, _ => none
  | n + 1, S, x4 => (if x3 ≤ x4 then some ((gI S 128 2), S) else (if (200 : Int32) ≤ (gI S 128 2) then some ((gI S 128 2), S) else ck (inb (gI S 128 2) 200) (lp_R_takeIn_3 x1 x3 n (uI (uI S 135 ((gI S 128 2)).toNatClampNeg ((((lushr x1 ((8 : Int32) * x4)).toInt32).toInt8.toInt32).toInt8.toInt32)) 128 2 ((gI (uI S 135 ((gI S 128 2)).toNatClampNeg ((((lushr x1 ((8 : Int32) * x4)).toInt32).toInt8.toInt32).toInt8.toInt32)) 128 2) + (1 : Int32))) (x4 + (1 : Int32)))))
def f_R_takeIn  (S : hs) (x1 : Int64) (x3 : Int32) : Option (Int32 × hs) := lp_R_takeIn_3 x1 x3 1000 S (0 : Int32)
theorem lo_R_takeIn_3 (w : Wd) (d : Nat) (c : cx) {n0 z0 : Nat} {z : Int32 × hs}   (x1 : Int64) (x3 : Int32)    :
    ∀ (n : Nat) (S : hs) (x4 : Int32), lp_R_takeIn_3 x1 x3 n S x4 = some z → J w (d + 1) m_R_takeIn (n0, z0, some (.int z.1), mk c z.2) 3 [some (.ref 128), some (.long x1), none, some (.int x3), some (.int x4)] [] (mk c S) := by
  intro n
  induction n with
  | zero => intro S x4 H; cases H
  | succ n ih =>
    intro S x4 H
    rw [lp_R_takeIn_3] at H
    refine J.run b_R_takeIn_3_2 k_R_takeIn_3_2 rfl (show J w (d + 1) m_R_takeIn (n0, z0, some (.int z.1), mk c z.2) 6 [some (.ref 128), some (.long x1), none, some (.int x3), some (.int x4)] [.int x3, .int x4] (mk c S) from ?_)
    refine J.cge (tgt := 53) d_R_takeIn_6 rfl (fun q1 => ?_) (fun q1 => ?_)
    · have H := ite_t H q1
      refine J.run b_R_takeIn_53_2 k_R_takeIn_53_2 rfl (And.intro (okO_st (S := S) rfl) (show J w (d + 1) m_R_takeIn (n0, z0, some (.int z.1), mk c z.2) 57 [some (.ref 128), some (.long x1), none, some (.int x3), some (.int x4)] [.int (gI S 128 2)] (mk c S) from ?_))
      obtain rfl := some_e H
      exact J.iret d_R_takeIn_57 rfl rfl
    · have H := ite_f H q1
      refine J.run b_R_takeIn_9_3 k_R_takeIn_9_3 rfl (And.intro (okO_st (S := S) rfl) (show J w (d + 1) m_R_takeIn (n0, z0, some (.int z.1), mk c z.2) 16 [some (.ref 128), some (.long x1), none, some (.int x3), some (.int x4)] [.int (200 : Int32), .int (gI S 128 2)] (mk c S) from ?_))
      refine J.cge (tgt := 53) d_R_takeIn_16 rfl (fun q2 => ?_) (fun q2 => ?_)
      · have H := ite_t H q2
        refine J.run b_R_takeIn_53_2 k_R_takeIn_53_2 rfl (And.intro (okO_st (S := S) rfl) (show J w (d + 1) m_R_takeIn (n0, z0, some (.int z.1), mk c z.2) 57 [some (.ref 128), some (.long x1), none, some (.int x3), some (.int x4)] [.int (gI S 128 2)] (mk c S) from ?_))
        obtain rfl := some_e H
        exact J.iret d_R_takeIn_57 rfl rfl
      · have H := ite_f H q2
        obtain ⟨g3, H⟩ := ck_e H
        refine J.run b_R_takeIn_19_19 k_R_takeIn_19_19 rfl (And.intro (okO_st (S := S) rfl) (And.intro (okO_st (S := S) rfl) (And.intro (okB_st (S := S) (n := 200) rfl g3) (And.intro (okO_st (S := (uI S 135 ((gI S 128 2)).toNatClampNeg ((((lushr x1 ((8 : Int32) * x4)).toInt32).toInt8.toInt32).toInt8.toInt32))) rfl) (And.intro (okO_st (S := (uI S 135 ((gI S 128 2)).toNatClampNeg ((((lushr x1 ((8 : Int32) * x4)).toInt32).toInt8.toInt32).toInt8.toInt32))) rfl) (show J w (d + 1) m_R_takeIn (n0, z0, some (.int z.1), mk c z.2) 50 [some (.ref 128), some (.long x1), none, some (.int x3), some (.int (x4 + (1 : Int32)))] [] (mk c (uI (uI S 135 ((gI S 128 2)).toNatClampNeg ((((lushr x1 ((8 : Int32) * x4)).toInt32).toInt8.toInt32).toInt8.toInt32)) 128 2 ((gI (uI S 135 ((gI S 128 2)).toNatClampNeg ((((lushr x1 ((8 : Int32) * x4)).toInt32).toInt8.toInt32).toInt8.toInt32)) 128 2) + (1 : Int32)))) from ?_))))))
        refine J.goto (tgt := 3) d_R_takeIn_50 rfl ?_
        refine J.mask [true, true, false, true, true] ?_
        exact ih (uI (uI S 135 ((gI S 128 2)).toNatClampNeg ((((lushr x1 ((8 : Int32) * x4)).toInt32).toInt8.toInt32).toInt8.toInt32)) 128 2 ((gI (uI S 135 ((gI S 128 2)).toNatClampNeg ((((lushr x1 ((8 : Int32) * x4)).toInt32).toInt8.toInt32).toInt8.toInt32)) 128 2) + (1 : Int32))) (x4 + (1 : Int32)) H
theorem c_R_takeIn (w : Wd) (d : Nat) (c : cx)   (S : hs) (x1 : Int64) (x3 : Int32)  {z : Int32 × hs} (H : f_R_takeIn S x1 x3 = some z) : Cl w (d + 1) m_R_takeIn [.ref 128, .long x1, .int x3] (mk c S) (some (.int z.1)) (mk c z.2) := by
  refine Cl.of (Nat.le_refl _) (Nat.le_refl _) (by decide +kernel) (Nat.le_of_ble_eq_true rfl) ?_
  unfold f_R_takeIn at H
  generalize hN (mk c S) = n0
  generalize hZ (mk c S) = z0
  show J w (d + 1) m_R_takeIn (n0, z0, some (.int z.1), mk c z.2) 0 [some (.ref 128), some (.long x1), none, some (.int x3), none] [] (mk c S)
  refine J.run b_R_takeIn_0_2 k_R_takeIn_0_2 rfl (show J w (d + 1) m_R_takeIn (n0, z0, some (.int z.1), mk c z.2) 3 [some (.ref 128), some (.long x1), none, some (.int x3), some (.int (0 : Int32))] [] (mk c S) from ?_)
  refine J.mask [true, true, false, true, true] ?_
  refine lo_R_takeIn_3 w d c x1 x3  1000 S (0 : Int32) H
def b_R_isLetter_0_2 : List Ins := [(.iload_n 0, 0, 0, 0), (.bipush (97), 0, 0, 0)]
theorem k_R_isLetter_0_2 : bok m_R_isLetter 0 b_R_isLetter_0_2 = true := by decide +kernel
def b_R_isLetter_16_1 : List Ins := [(.iconst (0), 0, 0, 0)]
theorem k_R_isLetter_16_1 : bok m_R_isLetter 16 b_R_isLetter_16_1 = true := by decide +kernel
def b_R_isLetter_6_2 : List Ins := [(.iload_n 0, 0, 0, 0), (.bipush (122), 0, 0, 0)]
theorem k_R_isLetter_6_2 : bok m_R_isLetter 6 b_R_isLetter_6_2 = true := by decide +kernel
def b_R_isLetter_12_1 : List Ins := [(.iconst (1), 0, 0, 0)]
theorem k_R_isLetter_12_1 : bok m_R_isLetter 12 b_R_isLetter_12_1 = true := by decide +kernel
theorem d_R_isLetter_3 : decode m_R_isLetter.2.1 3 = .ok (.if_icmp .lt (13), 3) := by decide +kernel
theorem d_R_isLetter_17 : decode m_R_isLetter.2.1 17 = .ok (.ireturn, 1) := by decide +kernel
theorem d_R_isLetter_9 : decode m_R_isLetter.2.1 9 = .ok (.if_icmp .gt (7), 3) := by decide +kernel
theorem d_R_isLetter_13 : decode m_R_isLetter.2.1 13 = .ok (.goto (4), 3) := by decide +kernel
def f_R_isLetter  (S : hs) (x0 : Int32) : Option (Int32 × hs) := (if x0 < (97 : Int32) then some ((0 : Int32), S) else (if (122 : Int32) < x0 then some ((0 : Int32), S) else some ((1 : Int32), S)))
theorem c_R_isLetter (w : Wd) (d : Nat) (c : cx)   (S : hs) (x0 : Int32)  {z : Int32 × hs} (H : f_R_isLetter S x0 = some z) : Cl w (d + 1) m_R_isLetter [.int x0] (mk c S) (some (.int z.1)) (mk c z.2) := by
  refine Cl.of (Nat.le_refl _) (Nat.le_refl _) (by decide +kernel) (Nat.le_of_ble_eq_true rfl) ?_
  unfold f_R_isLetter at H
  generalize hN (mk c S) = n0
  generalize hZ (mk c S) = z0
  show J w (d + 1) m_R_isLetter (n0, z0, some (.int z.1), mk c z.2) 0 [some (.int x0)] [] (mk c S)
  refine J.run b_R_isLetter_0_2 k_R_isLetter_0_2 rfl (show J w (d + 1) m_R_isLetter (n0, z0, some (.int z.1), mk c z.2) 3 [some (.int x0)] [.int (97 : Int32), .int x0] (mk c S) from ?_)
  refine J.clt (tgt := 16) d_R_isLetter_3 rfl (fun q1 => ?_) (fun q1 => ?_)
  · have H := ite_t H q1
    refine J.run b_R_isLetter_16_1 k_R_isLetter_16_1 rfl (show J w (d + 1) m_R_isLetter (n0, z0, some (.int z.1), mk c z.2) 17 [some (.int x0)] [.int (0 : Int32)] (mk c S) from ?_)
    obtain rfl := some_e H
    exact J.nret d_R_isLetter_17 rfl rfl rfl
  · have H := ite_f H q1
    refine J.run b_R_isLetter_6_2 k_R_isLetter_6_2 rfl (show J w (d + 1) m_R_isLetter (n0, z0, some (.int z.1), mk c z.2) 9 [some (.int x0)] [.int (122 : Int32), .int x0] (mk c S) from ?_)
    refine J.cgt (tgt := 16) d_R_isLetter_9 rfl (fun q2 => ?_) (fun q2 => ?_)
    · have H := ite_t H q2
      refine J.run b_R_isLetter_16_1 k_R_isLetter_16_1 rfl (show J w (d + 1) m_R_isLetter (n0, z0, some (.int z.1), mk c z.2) 17 [some (.int x0)] [.int (0 : Int32)] (mk c S) from ?_)
      obtain rfl := some_e H
      exact J.nret d_R_isLetter_17 rfl rfl rfl
    · have H := ite_f H q2
      refine J.run b_R_isLetter_12_1 k_R_isLetter_12_1 rfl (show J w (d + 1) m_R_isLetter (n0, z0, some (.int z.1), mk c z.2) 13 [some (.int x0)] [.int (1 : Int32)] (mk c S) from ?_)
      refine J.goto (tgt := 17) d_R_isLetter_13 rfl ?_
      obtain rfl := some_e H
      exact J.nret d_R_isLetter_17 rfl rfl rfl
def b_R_isDigit_0_2 : List Ins := [(.iload_n 0, 0, 0, 0), (.bipush (48), 0, 0, 0)]
theorem k_R_isDigit_0_2 : bok m_R_isDigit 0 b_R_isDigit_0_2 = true := by decide +kernel
def b_R_isDigit_16_1 : List Ins := [(.iconst (0), 0, 0, 0)]
theorem k_R_isDigit_16_1 : bok m_R_isDigit 16 b_R_isDigit_16_1 = true := by decide +kernel
def b_R_isDigit_6_2 : List Ins := [(.iload_n 0, 0, 0, 0), (.bipush (57), 0, 0, 0)]
theorem k_R_isDigit_6_2 : bok m_R_isDigit 6 b_R_isDigit_6_2 = true := by decide +kernel
def b_R_isDigit_12_1 : List Ins := [(.iconst (1), 0, 0, 0)]
theorem k_R_isDigit_12_1 : bok m_R_isDigit 12 b_R_isDigit_12_1 = true := by decide +kernel
theorem d_R_isDigit_3 : decode m_R_isDigit.2.1 3 = .ok (.if_icmp .lt (13), 3) := by decide +kernel
theorem d_R_isDigit_17 : decode m_R_isDigit.2.1 17 = .ok (.ireturn, 1) := by decide +kernel
theorem d_R_isDigit_9 : decode m_R_isDigit.2.1 9 = .ok (.if_icmp .gt (7), 3) := by decide +kernel
theorem d_R_isDigit_13 : decode m_R_isDigit.2.1 13 = .ok (.goto (4), 3) := by decide +kernel
def f_R_isDigit  (S : hs) (x0 : Int32) : Option (Int32 × hs) := (if x0 < (48 : Int32) then some ((0 : Int32), S) else (if (57 : Int32) < x0 then some ((0 : Int32), S) else some ((1 : Int32), S)))
theorem c_R_isDigit (w : Wd) (d : Nat) (c : cx)   (S : hs) (x0 : Int32)  {z : Int32 × hs} (H : f_R_isDigit S x0 = some z) : Cl w (d + 1) m_R_isDigit [.int x0] (mk c S) (some (.int z.1)) (mk c z.2) := by
  refine Cl.of (Nat.le_refl _) (Nat.le_refl _) (by decide +kernel) (Nat.le_of_ble_eq_true rfl) ?_
  unfold f_R_isDigit at H
  generalize hN (mk c S) = n0
  generalize hZ (mk c S) = z0
  show J w (d + 1) m_R_isDigit (n0, z0, some (.int z.1), mk c z.2) 0 [some (.int x0)] [] (mk c S)
  refine J.run b_R_isDigit_0_2 k_R_isDigit_0_2 rfl (show J w (d + 1) m_R_isDigit (n0, z0, some (.int z.1), mk c z.2) 3 [some (.int x0)] [.int (48 : Int32), .int x0] (mk c S) from ?_)
  refine J.clt (tgt := 16) d_R_isDigit_3 rfl (fun q1 => ?_) (fun q1 => ?_)
  · have H := ite_t H q1
    refine J.run b_R_isDigit_16_1 k_R_isDigit_16_1 rfl (show J w (d + 1) m_R_isDigit (n0, z0, some (.int z.1), mk c z.2) 17 [some (.int x0)] [.int (0 : Int32)] (mk c S) from ?_)
    obtain rfl := some_e H
    exact J.nret d_R_isDigit_17 rfl rfl rfl
  · have H := ite_f H q1
    refine J.run b_R_isDigit_6_2 k_R_isDigit_6_2 rfl (show J w (d + 1) m_R_isDigit (n0, z0, some (.int z.1), mk c z.2) 9 [some (.int x0)] [.int (57 : Int32), .int x0] (mk c S) from ?_)
    refine J.cgt (tgt := 16) d_R_isDigit_9 rfl (fun q2 => ?_) (fun q2 => ?_)
    · have H := ite_t H q2
      refine J.run b_R_isDigit_16_1 k_R_isDigit_16_1 rfl (show J w (d + 1) m_R_isDigit (n0, z0, some (.int z.1), mk c z.2) 17 [some (.int x0)] [.int (0 : Int32)] (mk c S) from ?_)
      obtain rfl := some_e H
      exact J.nret d_R_isDigit_17 rfl rfl rfl
    · have H := ite_f H q2
      refine J.run b_R_isDigit_12_1 k_R_isDigit_12_1 rfl (show J w (d + 1) m_R_isDigit (n0, z0, some (.int z.1), mk c z.2) 13 [some (.int x0)] [.int (1 : Int32)] (mk c S) from ?_)
      refine J.goto (tgt := 17) d_R_isDigit_13 rfl ?_
      obtain rfl := some_e H
      exact J.nret d_R_isDigit_17 rfl rfl rfl
def b_R_goesOn_0_2 : List Ins := [(.iload_n 1, 0, 0, 0), (.iconst (1), 0, 0, 0)]
theorem k_R_goesOn_0_2 : bok m_R_goesOn 0 b_R_goesOn_0_2 = true := by decide +kernel
def b_R_goesOn_12_1 : List Ins := [(.iconst (0), 0, 0, 0)]
theorem k_R_goesOn_12_1 : bok m_R_goesOn 12 b_R_goesOn_12_1 = true := by decide +kernel
def b_R_goesOn_5_2 : List Ins := [(.iload_n 1, 0, 0, 0), (.sipush (200), 0, 0, 0)]
theorem k_R_goesOn_5_2 : bok m_R_goesOn 5 b_R_goesOn_5_2 = true := by decide +kernel
def b_R_goesOn_14_4 : List Ins := [(.aload_n 0, 0, 0, 0), (.getfield 18, 3, 1, 2), (.iload_n 1, 0, 0, 0), (.baload, 0, 0, 0)]
theorem k_R_goesOn_14_4 : bok m_R_goesOn 14 b_R_goesOn_14_4 = true := by decide +kernel
def b_R_goesOn_40_4 : List Ins := [(.aload_n 0, 0, 0, 0), (.getfield 18, 3, 1, 2), (.iload_n 1, 0, 0, 0), (.baload, 0, 0, 0)]
theorem k_R_goesOn_40_4 : bok m_R_goesOn 40 b_R_goesOn_40_4 = true := by decide +kernel
def b_R_goesOn_70_1 : List Ins := [(.iconst (0), 0, 0, 0)]
theorem k_R_goesOn_70_1 : bok m_R_goesOn 70 b_R_goesOn_70_1 = true := by decide +kernel
def b_R_goesOn_52_6 : List Ins := [(.aload_n 0, 0, 0, 0), (.getfield 18, 3, 1, 2), (.iload_n 1, 0, 0, 0), (.iconst (1), 0, 0, 0), (.isub, 0, 0, 0), (.baload, 0, 0, 0)]
theorem k_R_goesOn_52_6 : bok m_R_goesOn 52 b_R_goesOn_52_6 = true := by decide +kernel
def b_R_goesOn_66_1 : List Ins := [(.iconst (1), 0, 0, 0)]
theorem k_R_goesOn_66_1 : bok m_R_goesOn 66 b_R_goesOn_66_1 = true := by decide +kernel
def b_R_goesOn_26_6 : List Ins := [(.aload_n 0, 0, 0, 0), (.getfield 18, 3, 1, 2), (.iload_n 1, 0, 0, 0), (.iconst (1), 0, 0, 0), (.isub, 0, 0, 0), (.baload, 0, 0, 0)]
theorem k_R_goesOn_26_6 : bok m_R_goesOn 26 b_R_goesOn_26_6 = true := by decide +kernel
theorem d_R_goesOn_2 : decode m_R_goesOn.2.1 2 = .ok (.if_icmp .lt (10), 3) := by decide +kernel
theorem d_R_goesOn_13 : decode m_R_goesOn.2.1 13 = .ok (.ireturn, 1) := by decide +kernel
theorem d_R_goesOn_9 : decode m_R_goesOn.2.1 9 = .ok (.if_icmp .lt (5), 3) := by decide +kernel
theorem d_R_goesOn_20 : decode m_R_goesOn.2.1 20 = .ok (.invokestatic 70, 3) := by decide +kernel
theorem d_R_goesOn_23 : decode m_R_goesOn.2.1 23 = .ok (.ifCond .eq (17), 3) := by decide +kernel
theorem d_R_goesOn_46 : decode m_R_goesOn.2.1 46 = .ok (.invokestatic 73, 3) := by decide +kernel
theorem d_R_goesOn_49 : decode m_R_goesOn.2.1 49 = .ok (.ifCond .eq (21), 3) := by decide +kernel
theorem d_R_goesOn_71 : decode m_R_goesOn.2.1 71 = .ok (.ireturn, 1) := by decide +kernel
theorem d_R_goesOn_60 : decode m_R_goesOn.2.1 60 = .ok (.invokestatic 73, 3) := by decide +kernel
theorem d_R_goesOn_63 : decode m_R_goesOn.2.1 63 = .ok (.ifCond .eq (7), 3) := by decide +kernel
theorem d_R_goesOn_67 : decode m_R_goesOn.2.1 67 = .ok (.goto (4), 3) := by decide +kernel
theorem d_R_goesOn_34 : decode m_R_goesOn.2.1 34 = .ok (.invokestatic 70, 3) := by decide +kernel
theorem d_R_goesOn_37 : decode m_R_goesOn.2.1 37 = .ok (.goto (34), 3) := by decide +kernel
def f_R_goesOn  (S : hs) (x1 : Int32) : Option (Int32 × hs) := (if x1 < (1 : Int32) then some ((0 : Int32), S) else (if x1 < (200 : Int32) then ck (inb x1 200) (bd (f_R_isLetter  S (gI S 135 (x1).toNatClampNeg)) fun r4 S5 => (if r4 = 0 then bd (f_R_isDigit  S5 (gI S5 135 (x1).toNatClampNeg)) fun r8 S9 => (if r8 = 0 then some ((0 : Int32), S9) else ck (inb (x1 - (1 : Int32)) 200) (bd (f_R_isDigit  S9 (gI S9 135 ((x1 - (1 : Int32))).toNatClampNeg)) fun r13 S14 => (if r13 = 0 then some ((0 : Int32), S14) else some ((1 : Int32), S14)))) else ck (inb (x1 - (1 : Int32)) 200) (bd (f_R_isLetter  S5 (gI S5 135 ((x1 - (1 : Int32))).toNatClampNeg)) fun r18 S19 => ck (isB r18) (some (r18, S19))))) else some ((0 : Int32), S)))
theorem c_R_goesOn (w : Wd) (d : Nat) (c : cx)   (S : hs) (x1 : Int32)  {z : Int32 × hs} (H : f_R_goesOn S x1 = some z) : Cl w (d + 2) m_R_goesOn [.ref 128, .int x1] (mk c S) (some (.int z.1)) (mk c z.2) := by
  refine Cl.of (Nat.le_refl _) (Nat.le_refl _) (by decide +kernel) (Nat.le_of_ble_eq_true rfl) ?_
  unfold f_R_goesOn at H
  generalize hN (mk c S) = n0
  generalize hZ (mk c S) = z0
  show J w (d + 2) m_R_goesOn (n0, z0, some (.int z.1), mk c z.2) 0 [some (.ref 128), some (.int x1)] [] (mk c S)
  refine J.run b_R_goesOn_0_2 k_R_goesOn_0_2 rfl (show J w (d + 2) m_R_goesOn (n0, z0, some (.int z.1), mk c z.2) 2 [some (.ref 128), some (.int x1)] [.int (1 : Int32), .int x1] (mk c S) from ?_)
  refine J.clt (tgt := 12) d_R_goesOn_2 rfl (fun q1 => ?_) (fun q1 => ?_)
  · have H := ite_t H q1
    refine J.run b_R_goesOn_12_1 k_R_goesOn_12_1 rfl (show J w (d + 2) m_R_goesOn (n0, z0, some (.int z.1), mk c z.2) 13 [some (.ref 128), some (.int x1)] [.int (0 : Int32)] (mk c S) from ?_)
    obtain rfl := some_e H
    exact J.nret d_R_goesOn_13 rfl rfl rfl
  · have H := ite_f H q1
    refine J.run b_R_goesOn_5_2 k_R_goesOn_5_2 rfl (show J w (d + 2) m_R_goesOn (n0, z0, some (.int z.1), mk c z.2) 9 [some (.ref 128), some (.int x1)] [.int (200 : Int32), .int x1] (mk c S) from ?_)
    refine J.clt (tgt := 14) d_R_goesOn_9 rfl (fun q2 => ?_) (fun q2 => ?_)
    · have H := ite_t H q2
      obtain ⟨g3, H⟩ := ck_e H
      refine J.run b_R_goesOn_14_4 k_R_goesOn_14_4 rfl (And.intro (okO_st (S := S) rfl) (And.intro (okA_st (S := S) (n := 200) rfl g3) (show J w (d + 2) m_R_goesOn (n0, z0, some (.int z.1), mk c z.2) 20 [some (.ref 128), some (.int x1)] [.int (gI S 135 (x1).toNatClampNeg)] (mk c S) from ?_)))
      obtain ⟨r4, S5, h6, H⟩ := bd_e H
      refine J.callS (y := m_R_isLetter) (av := [.int (gI S 135 (x1).toNatClampNeg)]) (rest := []) l_R_70 d_R_goesOn_20 (c_R_isLetter w (d + 0) c  S (gI S 135 (x1).toNatClampNeg) h6) rfl (Nat.le_of_ble_eq_true rfl) ⟨Nat.le_refl _, Nat.le_refl _⟩ (show J w (d + 2) m_R_goesOn (n0, z0, some (.int z.1), mk c z.2) 23 [some (.ref 128), some (.int x1)] [.int r4] (mk c S5) from ?_)
      refine J.zeq (tgt := 40) d_R_goesOn_23 rfl (fun q7 => ?_) (fun q7 => ?_)
      · have H := ite_t H q7
        refine J.run b_R_goesOn_40_4 k_R_goesOn_40_4 rfl (And.intro (okO_st (S := S5) rfl) (And.intro (okA_st (S := S5) (n := 200) rfl g3) (show J w (d + 2) m_R_goesOn (n0, z0, some (.int z.1), mk c z.2) 46 [some (.ref 128), some (.int x1)] [.int (gI S5 135 (x1).toNatClampNeg)] (mk c S5) from ?_)))
        obtain ⟨r8, S9, h10, H⟩ := bd_e H
        refine J.callS (y := m_R_isDigit) (av := [.int (gI S5 135 (x1).toNatClampNeg)]) (rest := []) l_R_73 d_R_goesOn_46 (c_R_isDigit w (d + 0) c  S5 (gI S5 135 (x1).toNatClampNeg) h10) rfl (Nat.le_of_ble_eq_true rfl) ⟨Nat.le_refl _, Nat.le_refl _⟩ (show J w (d + 2) m_R_goesOn (n0, z0, some (.int z.1), mk c z.2) 49 [some (.ref 128), some (.int x1)] [.int r8] (mk c S9) from ?_)
        refine J.zeq (tgt := 70) d_R_goesOn_49 rfl (fun q11 => ?_) (fun q11 => ?_)
        · have H := ite_t H q11
          refine J.run b_R_goesOn_70_1 k_R_goesOn_70_1 rfl (show J w (d + 2) m_R_goesOn (n0, z0, some (.int z.1), mk c z.2) 71 [some (.ref 128), some (.int x1)] [.int (0 : Int32)] (mk c S9) from ?_)
          obtain rfl := some_e H
          exact J.nret d_R_goesOn_71 rfl rfl rfl
        · have H := ite_f H q11
          obtain ⟨g12, H⟩ := ck_e H
          refine J.run b_R_goesOn_52_6 k_R_goesOn_52_6 rfl (And.intro (okO_st (S := S9) rfl) (And.intro (okA_st (S := S9) (n := 200) rfl g12) (show J w (d + 2) m_R_goesOn (n0, z0, some (.int z.1), mk c z.2) 60 [some (.ref 128), some (.int x1)] [.int (gI S9 135 ((x1 - (1 : Int32))).toNatClampNeg)] (mk c S9) from ?_)))
          obtain ⟨r13, S14, h15, H⟩ := bd_e H
          refine J.callS (y := m_R_isDigit) (av := [.int (gI S9 135 ((x1 - (1 : Int32))).toNatClampNeg)]) (rest := []) l_R_73 d_R_goesOn_60 (c_R_isDigit w (d + 0) c  S9 (gI S9 135 ((x1 - (1 : Int32))).toNatClampNeg) h15) rfl (Nat.le_of_ble_eq_true rfl) ⟨Nat.le_refl _, Nat.le_refl _⟩ (show J w (d + 2) m_R_goesOn (n0, z0, some (.int z.1), mk c z.2) 63 [some (.ref 128), some (.int x1)] [.int r13] (mk c S14) from ?_)
          refine J.zeq (tgt := 70) d_R_goesOn_63 rfl (fun q16 => ?_) (fun q16 => ?_)
          · have H := ite_t H q16
            refine J.run b_R_goesOn_70_1 k_R_goesOn_70_1 rfl (show J w (d + 2) m_R_goesOn (n0, z0, some (.int z.1), mk c z.2) 71 [some (.ref 128), some (.int x1)] [.int (0 : Int32)] (mk c S14) from ?_)
            obtain rfl := some_e H
            exact J.nret d_R_goesOn_71 rfl rfl rfl
          · have H := ite_f H q16
            refine J.run b_R_goesOn_66_1 k_R_goesOn_66_1 rfl (show J w (d + 2) m_R_goesOn (n0, z0, some (.int z.1), mk c z.2) 67 [some (.ref 128), some (.int x1)] [.int (1 : Int32)] (mk c S14) from ?_)
            refine J.goto (tgt := 71) d_R_goesOn_67 rfl ?_
            obtain rfl := some_e H
            exact J.nret d_R_goesOn_71 rfl rfl rfl
      · have H := ite_f H q7
        obtain ⟨g17, H⟩ := ck_e H
        refine J.run b_R_goesOn_26_6 k_R_goesOn_26_6 rfl (And.intro (okO_st (S := S5) rfl) (And.intro (okA_st (S := S5) (n := 200) rfl g17) (show J w (d + 2) m_R_goesOn (n0, z0, some (.int z.1), mk c z.2) 34 [some (.ref 128), some (.int x1)] [.int (gI S5 135 ((x1 - (1 : Int32))).toNatClampNeg)] (mk c S5) from ?_)))
        obtain ⟨r18, S19, h20, H⟩ := bd_e H
        refine J.callS (y := m_R_isLetter) (av := [.int (gI S5 135 ((x1 - (1 : Int32))).toNatClampNeg)]) (rest := []) l_R_70 d_R_goesOn_34 (c_R_isLetter w (d + 0) c  S5 (gI S5 135 ((x1 - (1 : Int32))).toNatClampNeg) h20) rfl (Nat.le_of_ble_eq_true rfl) ⟨Nat.le_refl _, Nat.le_refl _⟩ (show J w (d + 2) m_R_goesOn (n0, z0, some (.int z.1), mk c z.2) 37 [some (.ref 128), some (.int x1)] [.int r18] (mk c S19) from ?_)
        refine J.goto (tgt := 71) d_R_goesOn_37 rfl ?_
        obtain ⟨g21, H⟩ := ck_e H
        obtain rfl := some_e H
        exact J.nret d_R_goesOn_71 rfl (isB_n g21) rfl
    · have H := ite_f H q2
      refine J.run b_R_goesOn_12_1 k_R_goesOn_12_1 rfl (show J w (d + 2) m_R_goesOn (n0, z0, some (.int z.1), mk c z.2) 13 [some (.ref 128), some (.int x1)] [.int (0 : Int32)] (mk c S) from ?_)
      obtain rfl := some_e H
      exact J.nret d_R_goesOn_13 rfl rfl rfl
def b_R_endOfRun_0_4 : List Ins := [(.iload_n 1, 0, 0, 0), (.iconst (1), 0, 0, 0), (.iadd, 0, 0, 0), (.istore_n 2, 0, 0, 0)]
theorem k_R_endOfRun_0_4 : bok m_R_endOfRun 0 b_R_endOfRun_0_4 = true := by decide +kernel
def b_R_endOfRun_4_3 : List Ins := [(.iload_n 2, 0, 0, 0), (.aload_n 0, 0, 0, 0), (.getfield 29, 3, 2, 0)]
theorem k_R_endOfRun_4_3 : bok m_R_endOfRun 4 b_R_endOfRun_4_3 = true := by decide +kernel
def b_R_endOfRun_33_1 : List Ins := [(.iload_n 2, 0, 0, 0)]
theorem k_R_endOfRun_33_1 : bok m_R_endOfRun 33 b_R_endOfRun_33_1 = true := by decide +kernel
def b_R_endOfRun_12_2 : List Ins := [(.iload_n 2, 0, 0, 0), (.sipush (200), 0, 0, 0)]
theorem k_R_endOfRun_12_2 : bok m_R_endOfRun 12 b_R_endOfRun_12_2 = true := by decide +kernel
def b_R_endOfRun_19_2 : List Ins := [(.aload_n 0, 0, 0, 0), (.iload_n 2, 0, 0, 0)]
theorem k_R_endOfRun_19_2 : bok m_R_endOfRun 19 b_R_endOfRun_19_2 = true := by decide +kernel
def b_R_endOfRun_27_1 : List Ins := [(.iinc 2 (1), 0, 0, 0)]
theorem k_R_endOfRun_27_1 : bok m_R_endOfRun 27 b_R_endOfRun_27_1 = true := by decide +kernel
theorem d_R_endOfRun_9 : decode m_R_endOfRun.2.1 9 = .ok (.if_icmp .ge (24), 3) := by decide +kernel
theorem d_R_endOfRun_34 : decode m_R_endOfRun.2.1 34 = .ok (.ireturn, 1) := by decide +kernel
theorem d_R_endOfRun_16 : decode m_R_endOfRun.2.1 16 = .ok (.if_icmp .ge (17), 3) := by decide +kernel
theorem d_R_endOfRun_21 : decode m_R_endOfRun.2.1 21 = .ok (.invokevirtual 58, 3) := by decide +kernel
theorem d_R_endOfRun_24 : decode m_R_endOfRun.2.1 24 = .ok (.ifCond .eq (9), 3) := by decide +kernel
theorem d_R_endOfRun_30 : decode m_R_endOfRun.2.1 30 = .ok (.goto (-26), 3) := by decide +kernel
def lp_R_endOfRun_4    : Nat → hs → Int32 → Option (Int32 × hs)
  | 0, _, _ => none
  | n + 1, S, x2 => (if (gI S 128 2) ≤ x2 then some (x2, S) else (if (200 : Int32) ≤ x2 then some (x2, S) else bd (f_R_goesOn  S x2) fun r3 S4 => (if r3 = 0 then some (x2, S4) else lp_R_endOfRun_4  n S4 (x2 + (1 : Int32)))))
def f_R_endOfRun  (S : hs) (x1 : Int32) : Option (Int32 × hs) := lp_R_endOfRun_4  1000 S (x1 + (1 : Int32))
theorem lo_R_endOfRun_4 (w : Wd) (d : Nat) (c : cx) {n0 z0 : Nat} {z : Int32 × hs}       :
    ∀ (n : Nat) (S : hs) (x2 : Int32), lp_R_endOfRun_4  n S x2 = some z → J w (d + 3) m_R_endOfRun (n0, z0, some (.int z.1), mk c z.2) 4 [some (.ref 128), none, some (.int x2)] [] (mk c S) := by
  intro n
  induction n with
  | zero => intro S x2 H; cases H
  | succ n ih =>
    intro S x2 H
    rw [lp_R_endOfRun_4] at H
    refine J.run b_R_endOfRun_4_3 k_R_endOfRun_4_3 rfl (And.intro (okO_st (S := S) rfl) (show J w (d + 3) m_R_endOfRun (n0, z0, some (.int z.1), mk c z.2) 9 [some (.ref 128), none, some (.int x2)] [.int (gI S 128 2), .int x2] (mk c S) from ?_))
    refine J.cge (tgt := 33) d_R_endOfRun_9 rfl (fun q1 => ?_) (fun q1 => ?_)
    · have H := ite_t H q1
      refine J.run b_R_endOfRun_33_1 k_R_endOfRun_33_1 rfl (show J w (d + 3) m_R_endOfRun (n0, z0, some (.int z.1), mk c z.2) 34 [some (.ref 128), none, some (.int x2)] [.int x2] (mk c S) from ?_)
      obtain rfl := some_e H
      exact J.iret d_R_endOfRun_34 rfl rfl
    · have H := ite_f H q1
      refine J.run b_R_endOfRun_12_2 k_R_endOfRun_12_2 rfl (show J w (d + 3) m_R_endOfRun (n0, z0, some (.int z.1), mk c z.2) 16 [some (.ref 128), none, some (.int x2)] [.int (200 : Int32), .int x2] (mk c S) from ?_)
      refine J.cge (tgt := 33) d_R_endOfRun_16 rfl (fun q2 => ?_) (fun q2 => ?_)
      · have H := ite_t H q2
        refine J.run b_R_endOfRun_33_1 k_R_endOfRun_33_1 rfl (show J w (d + 3) m_R_endOfRun (n0, z0, some (.int z.1), mk c z.2) 34 [some (.ref 128), none, some (.int x2)] [.int x2] (mk c S) from ?_)
        obtain rfl := some_e H
        exact J.iret d_R_endOfRun_34 rfl rfl
      · have H := ite_f H q2
        refine J.run b_R_endOfRun_19_2 k_R_endOfRun_19_2 rfl (show J w (d + 3) m_R_endOfRun (n0, z0, some (.int z.1), mk c z.2) 21 [some (.ref 128), none, some (.int x2)] [.int x2, .ref 128] (mk c S) from ?_)
        obtain ⟨r3, S4, h5, H⟩ := bd_e H
        refine J.callV (y := m_R_goesOn) (av := [.int x2]) (rest := []) (q := 128) l_R_58 d_R_endOfRun_21 (isC_st rfl rfl) (c_R_goesOn w (d + 0) c  S x2 h5) rfl (Nat.le_of_ble_eq_true rfl) ⟨Nat.le_refl _, Nat.le_refl _⟩ (show J w (d + 3) m_R_endOfRun (n0, z0, some (.int z.1), mk c z.2) 24 [some (.ref 128), none, some (.int x2)] [.int r3] (mk c S4) from ?_)
        refine J.zeq (tgt := 33) d_R_endOfRun_24 rfl (fun q6 => ?_) (fun q6 => ?_)
        · have H := ite_t H q6
          refine J.run b_R_endOfRun_33_1 k_R_endOfRun_33_1 rfl (show J w (d + 3) m_R_endOfRun (n0, z0, some (.int z.1), mk c z.2) 34 [some (.ref 128), none, some (.int x2)] [.int x2] (mk c S4) from ?_)
          obtain rfl := some_e H
          exact J.iret d_R_endOfRun_34 rfl rfl
        · have H := ite_f H q6
          refine J.run b_R_endOfRun_27_1 k_R_endOfRun_27_1 rfl (show J w (d + 3) m_R_endOfRun (n0, z0, some (.int z.1), mk c z.2) 30 [some (.ref 128), none, some (.int (x2 + (1 : Int32)))] [] (mk c S4) from ?_)
          refine J.goto (tgt := 4) d_R_endOfRun_30 rfl ?_
          refine J.mask [true, false, true] ?_
          exact ih S4 (x2 + (1 : Int32)) H
theorem c_R_endOfRun (w : Wd) (d : Nat) (c : cx)   (S : hs) (x1 : Int32)  {z : Int32 × hs} (H : f_R_endOfRun S x1 = some z) : Cl w (d + 3) m_R_endOfRun [.ref 128, .int x1] (mk c S) (some (.int z.1)) (mk c z.2) := by
  refine Cl.of (Nat.le_refl _) (Nat.le_refl _) (by decide +kernel) (Nat.le_of_ble_eq_true rfl) ?_
  unfold f_R_endOfRun at H
  generalize hN (mk c S) = n0
  generalize hZ (mk c S) = z0
  show J w (d + 3) m_R_endOfRun (n0, z0, some (.int z.1), mk c z.2) 0 [some (.ref 128), some (.int x1), none] [] (mk c S)
  refine J.run b_R_endOfRun_0_4 k_R_endOfRun_0_4 rfl (show J w (d + 3) m_R_endOfRun (n0, z0, some (.int z.1), mk c z.2) 4 [some (.ref 128), some (.int x1), some (.int (x1 + (1 : Int32)))] [] (mk c S) from ?_)
  refine J.mask [true, false, true] ?_
  refine lo_R_endOfRun_4 w d c   1000 S (x1 + (1 : Int32)) H
def b_R_numberOf_0_4 : List Ins := [(.iconst (0), 0, 0, 0), (.istore_n 3, 0, 0, 0), (.iload_n 1, 0, 0, 0), (.istore 4, 0, 0, 0)]
theorem k_R_numberOf_0_4 : bok m_R_numberOf 0 b_R_numberOf_0_4 = true := by decide +kernel
def b_R_numberOf_5_2 : List Ins := [(.iload 4, 0, 0, 0), (.iload_n 2, 0, 0, 0)]
theorem k_R_numberOf_5_2 : bok m_R_numberOf 5 b_R_numberOf_5_2 = true := by decide +kernel
def b_R_numberOf_41_1 : List Ins := [(.iload_n 3, 0, 0, 0)]
theorem k_R_numberOf_41_1 : bok m_R_numberOf 41 b_R_numberOf_41_1 = true := by decide +kernel
def b_R_numberOf_11_2 : List Ins := [(.iload 4, 0, 0, 0), (.sipush (200), 0, 0, 0)]
theorem k_R_numberOf_11_2 : bok m_R_numberOf 11 b_R_numberOf_11_2 = true := by decide +kernel
def b_R_numberOf_19_12 : List Ins := [(.iload_n 3, 0, 0, 0), (.bipush (10), 0, 0, 0), (.imul, 0, 0, 0), (.aload_n 0, 0, 0, 0), (.getfield 18, 3, 1, 2), (.iload 4, 0, 0, 0), (.baload, 0, 0, 0), (.iadd, 0, 0, 0), (.bipush (48), 0, 0, 0), (.isub, 0, 0, 0), (.istore_n 3, 0, 0, 0), (.iinc 4 (1), 0, 0, 0)]
theorem k_R_numberOf_19_12 : bok m_R_numberOf 19 b_R_numberOf_19_12 = true := by decide +kernel
theorem d_R_numberOf_8 : decode m_R_numberOf.2.1 8 = .ok (.if_icmp .ge (33), 3) := by decide +kernel
theorem d_R_numberOf_42 : decode m_R_numberOf.2.1 42 = .ok (.ireturn, 1) := by decide +kernel
theorem d_R_numberOf_16 : decode m_R_numberOf.2.1 16 = .ok (.if_icmp .ge (25), 3) := by decide +kernel
theorem d_R_numberOf_38 : decode m_R_numberOf.2.1 38 = .ok (.goto (-33), 3) := by decide +kernel
def lp_R_numberOf_5 (x2 : Int32)   : Nat → hs → Int32 → Int32 → Option (Int32 × hs)
  | 0, _, _, _ => none
  | n + 1, S, x3, x4 => (if x2 ≤ x4 then some (x3, S) else (if (200 : Int32) ≤ x4 then some (x3, S) else ck (inb x4 200) (lp_R_numberOf_5 x2 n S (((x3 * (10 : Int32)) + (gI S 135 (x4).toNatClampNeg)) - (48 : Int32)) (x4 + (1 : Int32)))))
def f_R_numberOf  (S : hs) (x1 : Int32) (x2 : Int32) : Option (Int32 × hs) := lp_R_numberOf_5 x2 1000 S (0 : Int32) x1
theorem lo_R_numberOf_5 (w : Wd) (d : Nat) (c : cx) {n0 z0 : Nat} {z : Int32 × hs}   (x2 : Int32)    :
    ∀ (n : Nat) (S : hs) (x3 : Int32) (x4 : Int32), lp_R_numberOf_5 x2 n S x3 x4 = some z → J w (d + 1) m_R_numberOf (n0, z0, some (.int z.1), mk c z.2) 5 [some (.ref 128), none, some (.int x2), some (.int x3), some (.int x4)] [] (mk c S) := by
  intro n
  induction n with
  | zero => intro S x3 x4 H; cases H
  | succ n ih =>
    intro S x3 x4 H
    rw [lp_R_numberOf_5] at H
    refine J.run b_R_numberOf_5_2 k_R_numberOf_5_2 rfl (show J w (d + 1) m_R_numberOf (n0, z0, some (.int z.1), mk c z.2) 8 [some (.ref 128), none, some (.int x2), some (.int x3), some (.int x4)] [.int x2, .int x4] (mk c S) from ?_)
    refine J.cge (tgt := 41) d_R_numberOf_8 rfl (fun q1 => ?_) (fun q1 => ?_)
    · have H := ite_t H q1
      refine J.run b_R_numberOf_41_1 k_R_numberOf_41_1 rfl (show J w (d + 1) m_R_numberOf (n0, z0, some (.int z.1), mk c z.2) 42 [some (.ref 128), none, some (.int x2), some (.int x3), some (.int x4)] [.int x3] (mk c S) from ?_)
      obtain rfl := some_e H
      exact J.iret d_R_numberOf_42 rfl rfl
    · have H := ite_f H q1
      refine J.run b_R_numberOf_11_2 k_R_numberOf_11_2 rfl (show J w (d + 1) m_R_numberOf (n0, z0, some (.int z.1), mk c z.2) 16 [some (.ref 128), none, some (.int x2), some (.int x3), some (.int x4)] [.int (200 : Int32), .int x4] (mk c S) from ?_)
      refine J.cge (tgt := 41) d_R_numberOf_16 rfl (fun q2 => ?_) (fun q2 => ?_)
      · have H := ite_t H q2
        refine J.run b_R_numberOf_41_1 k_R_numberOf_41_1 rfl (show J w (d + 1) m_R_numberOf (n0, z0, some (.int z.1), mk c z.2) 42 [some (.ref 128), none, some (.int x2), some (.int x3), some (.int x4)] [.int x3] (mk c S) from ?_)
        obtain rfl := some_e H
        exact J.iret d_R_numberOf_42 rfl rfl
      · have H := ite_f H q2
        obtain ⟨g3, H⟩ := ck_e H
        refine J.run b_R_numberOf_19_12 k_R_numberOf_19_12 rfl (And.intro (okO_st (S := S) rfl) (And.intro (okA_st (S := S) (n := 200) rfl g3) (show J w (d + 1) m_R_numberOf (n0, z0, some (.int z.1), mk c z.2) 38 [some (.ref 128), none, some (.int x2), some (.int (((x3 * (10 : Int32)) + (gI S 135 (x4).toNatClampNeg)) - (48 : Int32))), some (.int (x4 + (1 : Int32)))] [] (mk c S) from ?_)))
        refine J.goto (tgt := 5) d_R_numberOf_38 rfl ?_
        refine J.mask [true, false, true, true, true] ?_
        exact ih S (((x3 * (10 : Int32)) + (gI S 135 (x4).toNatClampNeg)) - (48 : Int32)) (x4 + (1 : Int32)) H
theorem c_R_numberOf (w : Wd) (d : Nat) (c : cx)   (S : hs) (x1 : Int32) (x2 : Int32)  {z : Int32 × hs} (H : f_R_numberOf S x1 x2 = some z) : Cl w (d + 1) m_R_numberOf [.ref 128, .int x1, .int x2] (mk c S) (some (.int z.1)) (mk c z.2) := by
  refine Cl.of (Nat.le_refl _) (Nat.le_refl _) (by decide +kernel) (Nat.le_of_ble_eq_true rfl) ?_
  unfold f_R_numberOf at H
  generalize hN (mk c S) = n0
  generalize hZ (mk c S) = z0
  show J w (d + 1) m_R_numberOf (n0, z0, some (.int z.1), mk c z.2) 0 [some (.ref 128), some (.int x1), some (.int x2), none, none] [] (mk c S)
  refine J.run b_R_numberOf_0_4 k_R_numberOf_0_4 rfl (show J w (d + 1) m_R_numberOf (n0, z0, some (.int z.1), mk c z.2) 5 [some (.ref 128), some (.int x1), some (.int x2), some (.int (0 : Int32)), some (.int x1)] [] (mk c S) from ?_)
  refine J.mask [true, false, true, true, true] ?_
  refine lo_R_numberOf_5 w d c x2  1000 S (0 : Int32) x1 H
def b_St_coder_0_1 : List Ins := [(.getstatic 38, 0, 0, 0)]
theorem k_St_coder_0_1 : bok m_St_coder 0 b_St_coder_0_1 = true := by decide +kernel
def b_St_coder_6_2 : List Ins := [(.aload_n 0, 0, 0, 0), (.getfield 15, 30, 1, 0)]
theorem k_St_coder_6_2 : bok m_St_coder 6 b_St_coder_6_2 = true := by decide +kernel
theorem d_St_coder_3 : decode m_St_coder.2.1 3 = .ok (.ifCond .eq (10), 3) := by decide +kernel
theorem d_St_coder_10 : decode m_St_coder.2.1 10 = .ok (.goto (4), 3) := by decide +kernel
theorem d_St_coder_14 : decode m_St_coder.2.1 14 = .ok (.ireturn, 1) := by decide +kernel
def f_St_coder  (S : hs) (a0 : Nat) : Option (Int32 × hs) := some ((0 : Int32), S)
theorem c_St_coder (w : Wd) (d : Nat) (c : cx)   (S : hs) (a0 : Nat) (ha0 : a0 < 16) {z : Int32 × hs} (H : f_St_coder S a0 = some z) : Cl w (d + 1) m_St_coder [.ref a0] (mk c S) (some (.int z.1)) (mk c z.2) := by
  refine Cl.of (Nat.le_refl _) (Nat.le_refl _) (by decide +kernel) (Nat.le_of_ble_eq_true rfl) ?_
  unfold f_St_coder at H
  generalize hN (mk c S) = n0
  generalize hZ (mk c S) = z0
  show J w (d + 1) m_St_coder (n0, z0, some (.int z.1), mk c z.2) 0 [some (.ref a0)] [] (mk c S)
  refine J.run b_St_coder_0_1 k_St_coder_0_1 rfl (show J w (d + 1) m_St_coder (n0, z0, some (.int z.1), mk c z.2) 3 [some (.ref a0)] [.int (1 : Int32)] (mk c S) from ?_)
  refine J.zeq (tgt := 13) d_St_coder_3 rfl (fun q => absurd q (by decide)) (fun _ => ?_)
  refine J.run b_St_coder_6_2 k_St_coder_6_2 rfl (And.intro ha0 (show J w (d + 1) m_St_coder (n0, z0, some (.int z.1), mk c z.2) 10 [some (.ref a0)] [.int (0 : Int32)] (mk c S) from ?_))
  refine J.goto (tgt := 14) d_St_coder_10 rfl ?_
  obtain rfl := some_e H
  exact J.nret d_St_coder_14 rfl rfl rfl
def b_St_length_0_3 : List Ins := [(.aload_n 0, 0, 0, 0), (.getfield 9, 30, 0, 0), (.arraylength, 0, 0, 0)]
theorem k_St_length_0_3 : bok m_St_length 0 b_St_length_0_3 = true := by decide +kernel
def b_St_length_5_1 : List Ins := [(.aload_n 0, 0, 0, 0)]
theorem k_St_length_5_1 : bok m_St_length 5 b_St_length_5_1 = true := by decide +kernel
def b_St_length_9_1 : List Ins := [(.ishr, 0, 0, 0)]
theorem k_St_length_9_1 : bok m_St_length 9 b_St_length_9_1 = true := by decide +kernel
theorem d_St_length_6 : decode m_St_length.2.1 6 = .ok (.invokevirtual 335, 3) := by decide +kernel
theorem d_St_length_10 : decode m_St_length.2.1 10 = .ok (.ireturn, 1) := by decide +kernel
def f_St_length  (S : hs) (a0 : Nat) : Option (Int32 × hs) := some (((slen a0) >>> ((0 : Int32) &&& 31)), S)
theorem c_St_length (w : Wd) (d : Nat) (c : cx)   (S : hs) (a0 : Nat) (ha0 : a0 < 16) {z : Int32 × hs} (H : f_St_length S a0 = some z) : Cl w (d + 2) m_St_length [.ref a0] (mk c S) (some (.int z.1)) (mk c z.2) := by
  refine Cl.of (Nat.le_refl _) (Nat.le_refl _) (by decide +kernel) (Nat.le_of_ble_eq_true rfl) ?_
  unfold f_St_length at H
  generalize hN (mk c S) = n0
  generalize hZ (mk c S) = z0
  show J w (d + 2) m_St_length (n0, z0, some (.int z.1), mk c z.2) 0 [some (.ref a0)] [] (mk c S)
  refine J.run b_St_length_0_3 k_St_length_0_3 rfl (And.intro ha0 (And.intro (okN_str (S := S) ha0) (show J w (d + 2) m_St_length (n0, z0, some (.int z.1), mk c z.2) 5 [some (.ref a0)] [.int (Int32.ofNat (hK (mk c S) (16 + a0)).2)] (mk c S) from ?_)))
  rw [strK (c := c) (S := S) ha0]
  show J w (d + 2) m_St_length (n0, z0, some (.int z.1), mk c z.2) 5 [some (.ref a0)] [.int (slen a0)] (mk c S)
  refine J.run b_St_length_5_1 k_St_length_5_1 rfl (show J w (d + 2) m_St_length (n0, z0, some (.int z.1), mk c z.2) 6 [some (.ref a0)] [.ref a0, .int (slen a0)] (mk c S) from ?_)
  refine J.callV (y := m_St_coder) (av := []) (rest := [.int (slen a0)]) (q := a0) l_St_335 d_St_length_6 (Or.inr ⟨ha0, rfl⟩) (c_St_coder w (d + 0) c S a0 ha0 (z := ((0 : Int32), S)) rfl) rfl (Nat.le_of_ble_eq_true rfl) ⟨Nat.le_refl _, Nat.le_refl _⟩ (show J w (d + 2) m_St_length (n0, z0, some (.int z.1), mk c z.2) 9 [some (.ref a0)] [.int (0 : Int32), .int (slen a0)] (mk c S) from ?_)
  refine J.run b_St_length_9_1 k_St_length_9_1 rfl (show J w (d + 2) m_St_length (n0, z0, some (.int z.1), mk c z.2) 10 [some (.ref a0)] [.int ((slen a0) >>> ((0 : Int32) &&& 31))] (mk c S) from ?_)
  obtain rfl := some_e H
  exact J.iret d_St_length_10 rfl rfl
def b_St_isLatin1_0_1 : List Ins := [(.getstatic 38, 0, 0, 0)]
theorem k_St_isLatin1_0_1 : bok m_St_isLatin1 0 b_St_isLatin1_0_1 = true := by decide +kernel
def b_St_isLatin1_6_2 : List Ins := [(.aload_n 0, 0, 0, 0), (.getfield 15, 30, 1, 0)]
theorem k_St_isLatin1_6_2 : bok m_St_isLatin1 6 b_St_isLatin1_6_2 = true := by decide +kernel
def b_St_isLatin1_13_1 : List Ins := [(.iconst (1), 0, 0, 0)]
theorem k_St_isLatin1_13_1 : bok m_St_isLatin1 13 b_St_isLatin1_13_1 = true := by decide +kernel
theorem d_St_isLatin1_3 : decode m_St_isLatin1.2.1 3 = .ok (.ifCond .eq (14), 3) := by decide +kernel
theorem d_St_isLatin1_10 : decode m_St_isLatin1.2.1 10 = .ok (.ifCond .ne (7), 3) := by decide +kernel
theorem d_St_isLatin1_14 : decode m_St_isLatin1.2.1 14 = .ok (.goto (4), 3) := by decide +kernel
theorem d_St_isLatin1_18 : decode m_St_isLatin1.2.1 18 = .ok (.ireturn, 1) := by decide +kernel
def f_St_isLatin1  (S : hs) (a0 : Nat) : Option (Int32 × hs) := some ((1 : Int32), S)
theorem c_St_isLatin1 (w : Wd) (d : Nat) (c : cx)   (S : hs) (a0 : Nat) (ha0 : a0 < 16) {z : Int32 × hs} (H : f_St_isLatin1 S a0 = some z) : Cl w (d + 1) m_St_isLatin1 [.ref a0] (mk c S) (some (.int z.1)) (mk c z.2) := by
  refine Cl.of (Nat.le_refl _) (Nat.le_refl _) (by decide +kernel) (Nat.le_of_ble_eq_true rfl) ?_
  unfold f_St_isLatin1 at H
  generalize hN (mk c S) = n0
  generalize hZ (mk c S) = z0
  show J w (d + 1) m_St_isLatin1 (n0, z0, some (.int z.1), mk c z.2) 0 [some (.ref a0)] [] (mk c S)
  refine J.run b_St_isLatin1_0_1 k_St_isLatin1_0_1 rfl (show J w (d + 1) m_St_isLatin1 (n0, z0, some (.int z.1), mk c z.2) 3 [some (.ref a0)] [.int (1 : Int32)] (mk c S) from ?_)
  refine J.zeq (tgt := 17) d_St_isLatin1_3 rfl (fun q => absurd q (by decide)) (fun _ => ?_)
  refine J.run b_St_isLatin1_6_2 k_St_isLatin1_6_2 rfl (And.intro ha0 (show J w (d + 1) m_St_isLatin1 (n0, z0, some (.int z.1), mk c z.2) 10 [some (.ref a0)] [.int (0 : Int32)] (mk c S) from ?_))
  refine J.zne (tgt := 17) d_St_isLatin1_10 rfl (fun q => absurd (by decide) q) (fun _ => ?_)
  refine J.run b_St_isLatin1_13_1 k_St_isLatin1_13_1 rfl (show J w (d + 1) m_St_isLatin1 (n0, z0, some (.int z.1), mk c z.2) 14 [some (.ref a0)] [.int (1 : Int32)] (mk c S) from ?_)
  refine J.goto (tgt := 18) d_St_isLatin1_14 rfl ?_
  obtain rfl := some_e H
  exact J.nret d_St_isLatin1_18 rfl rfl rfl
def b_Pr_checkIndex_0_1 : List Ins := [(.iload_n 0, 0, 0, 0)]
theorem k_Pr_checkIndex_0_1 : bok m_Pr_checkIndex 0 b_Pr_checkIndex_0_1 = true := by decide +kernel
def b_Pr_checkIndex_9_3 : List Ins := [(.aload_n 2, 0, 0, 0), (.iload_n 0, 0, 0, 0), (.iload_n 1, 0, 0, 0)]
theorem k_Pr_checkIndex_9_3 : bok m_Pr_checkIndex 9 b_Pr_checkIndex_9_3 = true := by decide +kernel
def b_Pr_checkIndex_4_2 : List Ins := [(.iload_n 0, 0, 0, 0), (.iload_n 1, 0, 0, 0)]
theorem k_Pr_checkIndex_4_2 : bok m_Pr_checkIndex 4 b_Pr_checkIndex_4_2 = true := by decide +kernel
def b_Pr_checkIndex_16_1 : List Ins := [(.iload_n 0, 0, 0, 0)]
theorem k_Pr_checkIndex_16_1 : bok m_Pr_checkIndex 16 b_Pr_checkIndex_16_1 = true := by decide +kernel
theorem d_Pr_checkIndex_1 : decode m_Pr_checkIndex.2.1 1 = .ok (.ifCond .lt (8), 3) := by decide +kernel
theorem d_Pr_checkIndex_12 : decode m_Pr_checkIndex.2.1 12 = .ok (.invokestatic 95, 3) := by decide +kernel
theorem d_Pr_checkIndex_6 : decode m_Pr_checkIndex.2.1 6 = .ok (.if_icmp .lt (10), 3) := by decide +kernel
theorem d_Pr_checkIndex_17 : decode m_Pr_checkIndex.2.1 17 = .ok (.ireturn, 1) := by decide +kernel
def f_Pr_checkIndex  (S : hs) (x0 : Int32) (x1 : Int32) : Option (Int32 × hs) := (if x0 < 0 then none else (if x0 < x1 then some (x0, S) else none))
theorem c_Pr_checkIndex (w : Wd) (d : Nat) (c : cx)   (S : hs) (x0 : Int32) (x1 : Int32)  {z : Int32 × hs} (H : f_Pr_checkIndex S x0 x1 = some z) : Cl w (d + 2) m_Pr_checkIndex [.int x0, .int x1, .retAddr 0] (mk c S) (some (.int z.1)) (mk c z.2) := by
  refine Cl.of (Nat.le_refl _) (Nat.le_refl _) (by decide +kernel) (Nat.le_of_ble_eq_true rfl) ?_
  unfold f_Pr_checkIndex at H
  generalize hN (mk c S) = n0
  generalize hZ (mk c S) = z0
  show J w (d + 2) m_Pr_checkIndex (n0, z0, some (.int z.1), mk c z.2) 0 [some (.int x0), some (.int x1), some (.retAddr 0)] [] (mk c S)
  refine J.run b_Pr_checkIndex_0_1 k_Pr_checkIndex_0_1 rfl (show J w (d + 2) m_Pr_checkIndex (n0, z0, some (.int z.1), mk c z.2) 1 [some (.int x0), some (.int x1), some (.retAddr 0)] [.int x0] (mk c S) from ?_)
  refine J.zlt (tgt := 9) d_Pr_checkIndex_1 rfl (fun q1 => ?_) (fun q1 => ?_)
  · have H := ite_t H q1
    refine J.run b_Pr_checkIndex_9_3 k_Pr_checkIndex_9_3 rfl (show J w (d + 2) m_Pr_checkIndex (n0, z0, some (.int z.1), mk c z.2) 12 [some (.int x0), some (.int x1), some (.retAddr 0)] [.int x1, .int x0, .retAddr 0] (mk c S) from ?_)
    cases H
  · have H := ite_f H q1
    refine J.run b_Pr_checkIndex_4_2 k_Pr_checkIndex_4_2 rfl (show J w (d + 2) m_Pr_checkIndex (n0, z0, some (.int z.1), mk c z.2) 6 [some (.int x0), some (.int x1), some (.retAddr 0)] [.int x1, .int x0] (mk c S) from ?_)
    refine J.clt (tgt := 16) d_Pr_checkIndex_6 rfl (fun q2 => ?_) (fun q2 => ?_)
    · have H := ite_t H q2
      refine J.run b_Pr_checkIndex_16_1 k_Pr_checkIndex_16_1 rfl (show J w (d + 2) m_Pr_checkIndex (n0, z0, some (.int z.1), mk c z.2) 17 [some (.int x0), some (.int x1), some (.retAddr 0)] [.int x0] (mk c S) from ?_)
      obtain rfl := some_e H
      exact J.iret d_Pr_checkIndex_17 rfl rfl
    · have H := ite_f H q2
      refine J.run b_Pr_checkIndex_9_3 k_Pr_checkIndex_9_3 rfl (show J w (d + 2) m_Pr_checkIndex (n0, z0, some (.int z.1), mk c z.2) 12 [some (.int x0), some (.int x1), some (.retAddr 0)] [.int x1, .int x0, .retAddr 0] (mk c S) from ?_)
      cases H
def b_St_checkIndex_0_3 : List Ins := [(.iload_n 0, 0, 0, 0), (.iload_n 1, 0, 0, 0), (.getstatic 1053, 1, 0, 0)]
theorem k_St_checkIndex_0_3 : bok m_St_checkIndex 0 b_St_checkIndex_0_3 = true := by decide +kernel
def b_St_checkIndex_8_1 : List Ins := [(.pop, 0, 0, 0)]
theorem k_St_checkIndex_8_1 : bok m_St_checkIndex 8 b_St_checkIndex_8_1 = true := by decide +kernel
theorem d_St_checkIndex_5 : decode m_St_checkIndex.2.1 5 = .ok (.invokestatic 1059, 3) := by decide +kernel
theorem d_St_checkIndex_9 : decode m_St_checkIndex.2.1 9 = .ok (.return_, 1) := by decide +kernel
def f_St_checkIndex  (S : hs) (x0 : Int32) (x1 : Int32) : Option (Int32 × hs) := bd (f_Pr_checkIndex  S x0 x1) fun r1 S2 => some ((0 : Int32), S2)
theorem c_St_checkIndex (w : Wd) (d : Nat) (c : cx)   (S : hs) (x0 : Int32) (x1 : Int32)  {z : Int32 × hs} (H : f_St_checkIndex S x0 x1 = some z) : Cl w (d + 3) m_St_checkIndex [.int x0, .int x1] (mk c S) (none) (mk c z.2) := by
  refine Cl.of (Nat.le_refl _) (Nat.le_refl _) (by decide +kernel) (Nat.le_of_ble_eq_true rfl) ?_
  unfold f_St_checkIndex at H
  generalize hN (mk c S) = n0
  generalize hZ (mk c S) = z0
  show J w (d + 3) m_St_checkIndex (n0, z0, none, mk c z.2) 0 [some (.int x0), some (.int x1)] [] (mk c S)
  refine J.run b_St_checkIndex_0_3 k_St_checkIndex_0_3 rfl (show J w (d + 3) m_St_checkIndex (n0, z0, none, mk c z.2) 5 [some (.int x0), some (.int x1)] [.retAddr 0, .int x1, .int x0] (mk c S) from ?_)
  obtain ⟨r1, S2, h3, H⟩ := bd_e H
  refine J.callS (y := m_Pr_checkIndex) (av := [.int x0, .int x1, .retAddr 0]) (rest := []) l_St_1059 d_St_checkIndex_5 (c_Pr_checkIndex w (d + 0) c  S x0 x1 h3) rfl (Nat.le_of_ble_eq_true rfl) ⟨Nat.le_refl _, Nat.le_refl _⟩ (show J w (d + 3) m_St_checkIndex (n0, z0, none, mk c z.2) 8 [some (.int x0), some (.int x1)] [.int r1] (mk c S2) from ?_)
  refine J.run b_St_checkIndex_8_1 k_St_checkIndex_8_1 rfl (show J w (d + 3) m_St_checkIndex (n0, z0, none, mk c z.2) 9 [some (.int x0), some (.int x1)] [] (mk c S2) from ?_)
  obtain rfl := some_e H
  exact J.vret d_St_checkIndex_9 rfl rfl
def b_S1_charAt_0_3 : List Ins := [(.iload_n 1, 0, 0, 0), (.aload_n 0, 0, 0, 0), (.arraylength, 0, 0, 0)]
theorem k_S1_charAt_0_3 : bok m_S1_charAt 0 b_S1_charAt_0_3 = true := by decide +kernel
def b_S1_charAt_6_6 : List Ins := [(.aload_n 0, 0, 0, 0), (.iload_n 1, 0, 0, 0), (.baload, 0, 0, 0), (.sipush (255), 0, 0, 0), (.iand, 0, 0, 0), (.i2c, 0, 0, 0)]
theorem k_S1_charAt_6_6 : bok m_S1_charAt 6 b_S1_charAt_6_6 = true := by decide +kernel
theorem d_S1_charAt_3 : decode m_S1_charAt.2.1 3 = .ok (.invokestatic 9, 3) := by decide +kernel
theorem d_S1_charAt_14 : decode m_S1_charAt.2.1 14 = .ok (.ireturn, 1) := by decide +kernel
def f_S1_charAt  (S : hs) (a0 : Nat) (x1 : Int32) : Option (Int32 × hs) := bd (f_St_checkIndex  S x1 (slen a0)) fun r1 S2 => ck (inb x1 (tK (16 + a0)).2) (ck (isN .char ((((gI S2 (16 + a0) (x1).toNatClampNeg) &&& (255 : Int32)).toUInt32 % 65536).toInt32)) (some (((((gI S2 (16 + a0) (x1).toNatClampNeg) &&& (255 : Int32)).toUInt32 % 65536).toInt32), S2)))
theorem c_S1_charAt (w : Wd) (d : Nat) (c : cx)   (S : hs) (a0 : Nat) (x1 : Int32) (ha0 : a0 < 16) {z : Int32 × hs} (H : f_S1_charAt S a0 x1 = some z) : Cl w (d + 4) m_S1_charAt [.ref (16 + a0), .int x1] (mk c S) (some (.int z.1)) (mk c z.2) := by
  refine Cl.of (Nat.le_refl _) (Nat.le_refl _) (by decide +kernel) (Nat.le_of_ble_eq_true rfl) ?_
  unfold f_S1_charAt at H
  generalize hN (mk c S) = n0
  generalize hZ (mk c S) = z0
  show J w (d + 4) m_S1_charAt (n0, z0, some (.int z.1), mk c z.2) 0 [some (.ref (16 + a0)), some (.int x1)] [] (mk c S)
  refine J.run b_S1_charAt_0_3 k_S1_charAt_0_3 rfl (And.intro (okN_str (S := S) ha0) (show J w (d + 4) m_S1_charAt (n0, z0, some (.int z.1), mk c z.2) 3 [some (.ref (16 + a0)), some (.int x1)] [.int (Int32.ofNat (hK (mk c S) (16 + a0)).2), .int x1] (mk c S) from ?_))
  rw [strK (c := c) (S := S) ha0]
  show J w (d + 4) m_S1_charAt (n0, z0, some (.int z.1), mk c z.2) 3 [some (.ref (16 + a0)), some (.int x1)] [.int (slen a0), .int x1] (mk c S)
  obtain ⟨r1, S2, h3, H⟩ := bd_e H
  refine J.callS (y := m_St_checkIndex) (av := [.int x1, .int (slen a0)]) (rest := []) l_S1_9 d_S1_charAt_3 (c_St_checkIndex w (d + 0) c  S x1 (slen a0) h3) rfl (Nat.le_of_ble_eq_true rfl) ⟨Nat.le_refl _, Nat.le_refl _⟩ (show J w (d + 4) m_S1_charAt (n0, z0, some (.int z.1), mk c z.2) 6 [some (.ref (16 + a0)), some (.int x1)] [] (mk c S2) from ?_)
  obtain ⟨g4, H⟩ := ck_e H
  refine J.run b_S1_charAt_6_6 k_S1_charAt_6_6 rfl (And.intro (okA_str (S := S2) ha0 g4) (show J w (d + 4) m_S1_charAt (n0, z0, some (.int z.1), mk c z.2) 14 [some (.ref (16 + a0)), some (.int x1)] [.int ((((gI S2 (16 + a0) (x1).toNatClampNeg) &&& (255 : Int32)).toUInt32 % 65536).toInt32)] (mk c S2) from ?_))
  obtain ⟨g5, H⟩ := ck_e H
  obtain rfl := some_e H
  exact J.nret d_S1_charAt_14 rfl (isN_e g5) rfl
def b_St_charAt_0_1 : List Ins := [(.aload_n 0, 0, 0, 0)]
theorem k_St_charAt_0_1 : bok m_St_charAt 0 b_St_charAt_0_1 = true := by decide +kernel
def b_St_charAt_7_3 : List Ins := [(.aload_n 0, 0, 0, 0), (.getfield 9, 30, 0, 0), (.iload_n 1, 0, 0, 0)]
theorem k_St_charAt_7_3 : bok m_St_charAt 7 b_St_charAt_7_3 = true := by decide +kernel
theorem d_St_charAt_1 : decode m_St_charAt.2.1 1 = .ok (.invokevirtual 492, 3) := by decide +kernel
theorem d_St_charAt_4 : decode m_St_charAt.2.1 4 = .ok (.ifCond .eq (12), 3) := by decide +kernel
theorem d_St_charAt_12 : decode m_St_charAt.2.1 12 = .ok (.invokestatic 495, 3) := by decide +kernel
theorem d_St_charAt_15 : decode m_St_charAt.2.1 15 = .ok (.ireturn, 1) := by decide +kernel
def f_St_charAt  (S : hs) (a0 : Nat) (x1 : Int32) : Option (Int32 × hs) := bd (f_S1_charAt  S a0 x1) fun r1 S2 => ck (isN .char r1) (some (r1, S2))
theorem c_St_charAt (w : Wd) (d : Nat) (c : cx)   (S : hs) (a0 : Nat) (x1 : Int32) (ha0 : a0 < 16) {z : Int32 × hs} (H : f_St_charAt S a0 x1 = some z) : Cl w (d + 5) m_St_charAt [.ref a0, .int x1] (mk c S) (some (.int z.1)) (mk c z.2) := by
  refine Cl.of (Nat.le_refl _) (Nat.le_refl _) (by decide +kernel) (Nat.le_of_ble_eq_true rfl) ?_
  unfold f_St_charAt at H
  generalize hN (mk c S) = n0
  generalize hZ (mk c S) = z0
  show J w (d + 5) m_St_charAt (n0, z0, some (.int z.1), mk c z.2) 0 [some (.ref a0), some (.int x1)] [] (mk c S)
  refine J.run b_St_charAt_0_1 k_St_charAt_0_1 rfl (show J w (d + 5) m_St_charAt (n0, z0, some (.int z.1), mk c z.2) 1 [some (.ref a0), some (.int x1)] [.ref a0] (mk c S) from ?_)
  refine J.callV (y := m_St_isLatin1) (av := []) (rest := []) (q := a0) l_St_492 d_St_charAt_1 (Or.inr ⟨ha0, rfl⟩) (c_St_isLatin1 w (d + 3) c S a0 ha0 (z := ((1 : Int32), S)) rfl) rfl (Nat.le_of_ble_eq_true rfl) ⟨Nat.le_refl _, Nat.le_refl _⟩ (show J w (d + 5) m_St_charAt (n0, z0, some (.int z.1), mk c z.2) 4 [some (.ref a0), some (.int x1)] [.int (1 : Int32)] (mk c S) from ?_)
  refine J.zeq (tgt := 16) d_St_charAt_4 rfl (fun q => absurd q (by decide)) (fun _ => ?_)
  refine J.run b_St_charAt_7_3 k_St_charAt_7_3 rfl (And.intro ha0 (show J w (d + 5) m_St_charAt (n0, z0, some (.int z.1), mk c z.2) 12 [some (.ref a0), some (.int x1)] [.int x1, .ref (16 + a0)] (mk c S) from ?_))
  obtain ⟨r1, S2, h3, H⟩ := bd_e H
  refine J.callS (y := m_S1_charAt) (av := [.ref (16 + a0), .int x1]) (rest := []) l_St_495 d_St_charAt_12 (c_S1_charAt w (d + 0) c  S a0 x1 ha0 h3) rfl (Nat.le_of_ble_eq_true rfl) ⟨Nat.le_refl _, Nat.le_refl _⟩ (show J w (d + 5) m_St_charAt (n0, z0, some (.int z.1), mk c z.2) 15 [some (.ref a0), some (.int x1)] [.int r1] (mk c S2) from ?_)
  obtain ⟨g4, H⟩ := ck_e H
  obtain rfl := some_e H
  exact J.nret d_St_charAt_15 rfl (isN_e g4) rfl
def b_R_isWord_0_4 : List Ins := [(.iload_n 3, 0, 0, 0), (.iload_n 2, 0, 0, 0), (.isub, 0, 0, 0), (.aload_n 1, 0, 0, 0)]
theorem k_R_isWord_0_4 : bok m_R_isWord 0 b_R_isWord_0_4 = true := by decide +kernel
def b_R_isWord_12_2 : List Ins := [(.iload_n 2, 0, 0, 0), (.istore 4, 0, 0, 0)]
theorem k_R_isWord_12_2 : bok m_R_isWord 12 b_R_isWord_12_2 = true := by decide +kernel
def b_R_isWord_15_2 : List Ins := [(.iload 4, 0, 0, 0), (.iload_n 3, 0, 0, 0)]
theorem k_R_isWord_15_2 : bok m_R_isWord 15 b_R_isWord_15_2 = true := by decide +kernel
def b_R_isWord_55_1 : List Ins := [(.iconst (1), 0, 0, 0)]
theorem k_R_isWord_55_1 : bok m_R_isWord 55 b_R_isWord_55_1 = true := by decide +kernel
def b_R_isWord_21_2 : List Ins := [(.iload 4, 0, 0, 0), (.sipush (200), 0, 0, 0)]
theorem k_R_isWord_21_2 : bok m_R_isWord 21 b_R_isWord_21_2 = true := by decide +kernel
def b_R_isWord_29_8 : List Ins := [(.aload_n 0, 0, 0, 0), (.getfield 18, 3, 1, 2), (.iload 4, 0, 0, 0), (.baload, 0, 0, 0), (.aload_n 1, 0, 0, 0), (.iload 4, 0, 0, 0), (.iload_n 2, 0, 0, 0), (.isub, 0, 0, 0)]
theorem k_R_isWord_29_8 : bok m_R_isWord 29 b_R_isWord_29_8 = true := by decide +kernel
def b_R_isWord_49_1 : List Ins := [(.iinc 4 (1), 0, 0, 0)]
theorem k_R_isWord_49_1 : bok m_R_isWord 49 b_R_isWord_49_1 = true := by decide +kernel
def b_R_isWord_47_1 : List Ins := [(.iconst (0), 0, 0, 0)]
theorem k_R_isWord_47_1 : bok m_R_isWord 47 b_R_isWord_47_1 = true := by decide +kernel
def b_R_isWord_10_1 : List Ins := [(.iconst (0), 0, 0, 0)]
theorem k_R_isWord_10_1 : bok m_R_isWord 10 b_R_isWord_10_1 = true := by decide +kernel
theorem d_R_isWord_4 : decode m_R_isWord.2.1 4 = .ok (.invokevirtual 118, 3) := by decide +kernel
theorem d_R_isWord_7 : decode m_R_isWord.2.1 7 = .ok (.if_icmp .eq (5), 3) := by decide +kernel
theorem d_R_isWord_18 : decode m_R_isWord.2.1 18 = .ok (.if_icmp .ge (37), 3) := by decide +kernel
theorem d_R_isWord_56 : decode m_R_isWord.2.1 56 = .ok (.ireturn, 1) := by decide +kernel
theorem d_R_isWord_26 : decode m_R_isWord.2.1 26 = .ok (.if_icmp .ge (29), 3) := by decide +kernel
theorem d_R_isWord_41 : decode m_R_isWord.2.1 41 = .ok (.invokevirtual 124, 3) := by decide +kernel
theorem d_R_isWord_44 : decode m_R_isWord.2.1 44 = .ok (.if_icmp .eq (5), 3) := by decide +kernel
theorem d_R_isWord_52 : decode m_R_isWord.2.1 52 = .ok (.goto (-37), 3) := by decide +kernel
theorem d_R_isWord_48 : decode m_R_isWord.2.1 48 = .ok (.ireturn, 1) := by decide +kernel
theorem d_R_isWord_11 : decode m_R_isWord.2.1 11 = .ok (.ireturn, 1) := by decide +kernel
def lp_R_isWord_15 (a1 : Nat) (x2 : Int32) (x3 : Int32)   : Nat → hs → Int32 → Option (Int32 × hs)
  | 0, _, _ => none
  | n + 1, S, x4 => (if x3 ≤ x4 then some ((1 : Int32), S) else (if (200 : Int32) ≤ x4 then some ((1 : Int32), S) else ck (inb x4 200) (bd (f_St_charAt  S a1 (x4 - x2)) fun r8 S9 => (if (gI S 135 (x4).toNatClampNeg) = r8 then lp_R_isWord_15 a1 x2 x3 n S9 (x4 + (1 : Int32)) else some ((0 : Int32), S9)))))
def f_R_isWord  (S : hs) (a1 : Nat) (x2 : Int32) (x3 : Int32) : Option (Int32 × hs) := bd (f_St_length  S a1) fun r1 S2 => (if (x3 - x2) = r1 then lp_R_isWord_15 a1 x2 x3 1000 S2 x2 else some ((0 : Int32), S2))
theorem lo_R_isWord_15 (w : Wd) (d : Nat) (c : cx) {n0 z0 : Nat} {z : Int32 × hs}   (a1 : Nat) (x2 : Int32) (x3 : Int32) (ha1 : a1 < 16)   :
    ∀ (n : Nat) (S : hs) (x4 : Int32), lp_R_isWord_15 a1 x2 x3 n S x4 = some z → J w (d + 6) m_R_isWord (n0, z0, some (.int z.1), mk c z.2) 15 [some (.ref 128), some (.ref a1), some (.int x2), some (.int x3), some (.int x4)] [] (mk c S) := by
  intro n
  induction n with
  | zero => intro S x4 H; cases H
  | succ n ih =>
    intro S x4 H
    rw [lp_R_isWord_15] at H
    refine J.run b_R_isWord_15_2 k_R_isWord_15_2 rfl (show J w (d + 6) m_R_isWord (n0, z0, some (.int z.1), mk c z.2) 18 [some (.ref 128), some (.ref a1), some (.int x2), some (.int x3), some (.int x4)] [.int x3, .int x4] (mk c S) from ?_)
    refine J.cge (tgt := 55) d_R_isWord_18 rfl (fun q5 => ?_) (fun q5 => ?_)
    · have H := ite_t H q5
      refine J.run b_R_isWord_55_1 k_R_isWord_55_1 rfl (show J w (d + 6) m_R_isWord (n0, z0, some (.int z.1), mk c z.2) 56 [some (.ref 128), some (.ref a1), some (.int x2), some (.int x3), some (.int x4)] [.int (1 : Int32)] (mk c S) from ?_)
      obtain rfl := some_e H
      exact J.nret d_R_isWord_56 rfl rfl rfl
    · have H := ite_f H q5
      refine J.run b_R_isWord_21_2 k_R_isWord_21_2 rfl (show J w (d + 6) m_R_isWord (n0, z0, some (.int z.1), mk c z.2) 26 [some (.ref 128), some (.ref a1), some (.int x2), some (.int x3), some (.int x4)] [.int (200 : Int32), .int x4] (mk c S) from ?_)
      refine J.cge (tgt := 55) d_R_isWord_26 rfl (fun q6 => ?_) (fun q6 => ?_)
      · have H := ite_t H q6
        refine J.run b_R_isWord_55_1 k_R_isWord_55_1 rfl (show J w (d + 6) m_R_isWord (n0, z0, some (.int z.1), mk c z.2) 56 [some (.ref 128), some (.ref a1), some (.int x2), some (.int x3), some (.int x4)] [.int (1 : Int32)] (mk c S) from ?_)
        obtain rfl := some_e H
        exact J.nret d_R_isWord_56 rfl rfl rfl
      · have H := ite_f H q6
        obtain ⟨g7, H⟩ := ck_e H
        refine J.run b_R_isWord_29_8 k_R_isWord_29_8 rfl (And.intro (okO_st (S := S) rfl) (And.intro (okA_st (S := S) (n := 200) rfl g7) (show J w (d + 6) m_R_isWord (n0, z0, some (.int z.1), mk c z.2) 41 [some (.ref 128), some (.ref a1), some (.int x2), some (.int x3), some (.int x4)] [.int (x4 - x2), .ref a1, .int (gI S 135 (x4).toNatClampNeg)] (mk c S) from ?_)))
        obtain ⟨r8, S9, h10, H⟩ := bd_e H
        refine J.callV (y := m_St_charAt) (av := [.int (x4 - x2)]) (rest := [.int (gI S 135 (x4).toNatClampNeg)]) (q := a1) l_R_124 d_R_isWord_41 (Or.inr ⟨ha1, rfl⟩) (c_St_charAt w (d + 0) c  S a1 (x4 - x2) ha1 h10) rfl (Nat.le_of_ble_eq_true rfl) ⟨Nat.le_refl _, Nat.le_refl _⟩ (show J w (d + 6) m_R_isWord (n0, z0, some (.int z.1), mk c z.2) 44 [some (.ref 128), some (.ref a1), some (.int x2), some (.int x3), some (.int x4)] [.int r8, .int (gI S 135 (x4).toNatClampNeg)] (mk c S9) from ?_)
        refine J.ceq (tgt := 49) d_R_isWord_44 rfl (fun q11 => ?_) (fun q11 => ?_)
        · have H := ite_t H q11
          refine J.run b_R_isWord_49_1 k_R_isWord_49_1 rfl (show J w (d + 6) m_R_isWord (n0, z0, some (.int z.1), mk c z.2) 52 [some (.ref 128), some (.ref a1), some (.int x2), some (.int x3), some (.int (x4 + (1 : Int32)))] [] (mk c S9) from ?_)
          refine J.goto (tgt := 15) d_R_isWord_52 rfl ?_
          refine J.mask [true, true, true, true, true] ?_
          exact ih S9 (x4 + (1 : Int32)) H
        · have H := ite_f H q11
          refine J.run b_R_isWord_47_1 k_R_isWord_47_1 rfl (show J w (d + 6) m_R_isWord (n0, z0, some (.int z.1), mk c z.2) 48 [some (.ref 128), some (.ref a1), some (.int x2), some (.int x3), some (.int x4)] [.int (0 : Int32)] (mk c S9) from ?_)
          obtain rfl := some_e H
          exact J.nret d_R_isWord_48 rfl rfl rfl
theorem c_R_isWord (w : Wd) (d : Nat) (c : cx)   (S : hs) (a1 : Nat) (x2 : Int32) (x3 : Int32) (ha1 : a1 < 16) {z : Int32 × hs} (H : f_R_isWord S a1 x2 x3 = some z) : Cl w (d + 6) m_R_isWord [.ref 128, .ref a1, .int x2, .int x3] (mk c S) (some (.int z.1)) (mk c z.2) := by
  refine Cl.of (Nat.le_refl _) (Nat.le_refl _) (by decide +kernel) (Nat.le_of_ble_eq_true rfl) ?_
  unfold f_R_isWord at H
  generalize hN (mk c S) = n0
  generalize hZ (mk c S) = z0
  show J w (d + 6) m_R_isWord (n0, z0, some (.int z.1), mk c z.2) 0 [some (.ref 128), some (.ref a1), some (.int x2), some (.int x3), none] [] (mk c S)
  refine J.run b_R_isWord_0_4 k_R_isWord_0_4 rfl (show J w (d + 6) m_R_isWord (n0, z0, some (.int z.1), mk c z.2) 4 [some (.ref 128), some (.ref a1), some (.int x2), some (.int x3), none] [.ref a1, .int (x3 - x2)] (mk c S) from ?_)
  obtain ⟨r1, S2, h3, H⟩ := bd_e H
  refine J.callV (y := m_St_length) (av := []) (rest := [.int (x3 - x2)]) (q := a1) l_R_118 d_R_isWord_4 (Or.inr ⟨ha1, rfl⟩) (c_St_length w (d + 3) c  S a1 ha1 h3) rfl (Nat.le_of_ble_eq_true rfl) ⟨Nat.le_refl _, Nat.le_refl _⟩ (show J w (d + 6) m_R_isWord (n0, z0, some (.int z.1), mk c z.2) 7 [some (.ref 128), some (.ref a1), some (.int x2), some (.int x3), none] [.int r1, .int (x3 - x2)] (mk c S2) from ?_)
  refine J.ceq (tgt := 12) d_R_isWord_7 rfl (fun q4 => ?_) (fun q4 => ?_)
  · have H := ite_t H q4
    refine J.run b_R_isWord_12_2 k_R_isWord_12_2 rfl (show J w (d + 6) m_R_isWord (n0, z0, some (.int z.1), mk c z.2) 15 [some (.ref 128), some (.ref a1), some (.int x2), some (.int x3), some (.int x2)] [] (mk c S2) from ?_)
    refine J.mask [true, true, true, true, true] ?_
    refine lo_R_isWord_15 w d c a1 x2 x3 ha1  1000 S2 x2 H
  · have H := ite_f H q4
    refine J.run b_R_isWord_10_1 k_R_isWord_10_1 rfl (show J w (d + 6) m_R_isWord (n0, z0, some (.int z.1), mk c z.2) 11 [some (.ref 128), some (.ref a1), some (.int x2), some (.int x3), none] [.int (0 : Int32)] (mk c S2) from ?_)
    obtain rfl := some_e H
    exact J.nret d_R_isWord_11 rfl rfl rfl
def b_R_wordOf_0_4 : List Ins := [(.aload_n 0, 0, 0, 0), (.ldc 82, 1, 0, 0), (.iload_n 1, 0, 0, 0), (.iload_n 2, 0, 0, 0)]
theorem k_R_wordOf_0_4 : bok m_R_wordOf 0 b_R_wordOf_0_4 = true := by decide +kernel
def b_R_wordOf_17_4 : List Ins := [(.aload_n 0, 0, 0, 0), (.ldc 88, 1, 1, 0), (.iload_n 1, 0, 0, 0), (.iload_n 2, 0, 0, 0)]
theorem k_R_wordOf_17_4 : bok m_R_wordOf 17 b_R_wordOf_17_4 = true := by decide +kernel
def b_R_wordOf_34_4 : List Ins := [(.aload_n 0, 0, 0, 0), (.ldc 90, 1, 2, 0), (.iload_n 1, 0, 0, 0), (.iload_n 2, 0, 0, 0)]
theorem k_R_wordOf_34_4 : bok m_R_wordOf 34 b_R_wordOf_34_4 = true := by decide +kernel
def b_R_wordOf_51_4 : List Ins := [(.aload_n 0, 0, 0, 0), (.ldc 92, 1, 3, 0), (.iload_n 1, 0, 0, 0), (.iload_n 2, 0, 0, 0)]
theorem k_R_wordOf_51_4 : bok m_R_wordOf 51 b_R_wordOf_51_4 = true := by decide +kernel
def b_R_wordOf_68_4 : List Ins := [(.aload_n 0, 0, 0, 0), (.ldc 94, 1, 4, 0), (.iload_n 1, 0, 0, 0), (.iload_n 2, 0, 0, 0)]
theorem k_R_wordOf_68_4 : bok m_R_wordOf 68 b_R_wordOf_68_4 = true := by decide +kernel
def b_R_wordOf_85_4 : List Ins := [(.aload_n 0, 0, 0, 0), (.ldc 96, 1, 5, 0), (.iload_n 1, 0, 0, 0), (.iload_n 2, 0, 0, 0)]
theorem k_R_wordOf_85_4 : bok m_R_wordOf 85 b_R_wordOf_85_4 = true := by decide +kernel
def b_R_wordOf_102_4 : List Ins := [(.aload_n 0, 0, 0, 0), (.ldc 98, 1, 6, 0), (.iload_n 1, 0, 0, 0), (.iload_n 2, 0, 0, 0)]
theorem k_R_wordOf_102_4 : bok m_R_wordOf 102 b_R_wordOf_102_4 = true := by decide +kernel
def b_R_wordOf_119_4 : List Ins := [(.aload_n 0, 0, 0, 0), (.ldc 100, 1, 7, 0), (.iload_n 1, 0, 0, 0), (.iload_n 2, 0, 0, 0)]
theorem k_R_wordOf_119_4 : bok m_R_wordOf 119 b_R_wordOf_119_4 = true := by decide +kernel
def b_R_wordOf_136_4 : List Ins := [(.aload_n 0, 0, 0, 0), (.ldc 102, 1, 8, 0), (.iload_n 1, 0, 0, 0), (.iload_n 2, 0, 0, 0)]
theorem k_R_wordOf_136_4 : bok m_R_wordOf 136 b_R_wordOf_136_4 = true := by decide +kernel
def b_R_wordOf_153_4 : List Ins := [(.aload_n 0, 0, 0, 0), (.ldc 104, 1, 9, 0), (.iload_n 1, 0, 0, 0), (.iload_n 2, 0, 0, 0)]
theorem k_R_wordOf_153_4 : bok m_R_wordOf 153 b_R_wordOf_153_4 = true := by decide +kernel
def b_R_wordOf_170_4 : List Ins := [(.aload_n 0, 0, 0, 0), (.ldc 106, 1, 10, 0), (.iload_n 1, 0, 0, 0), (.iload_n 2, 0, 0, 0)]
theorem k_R_wordOf_170_4 : bok m_R_wordOf 170 b_R_wordOf_170_4 = true := by decide +kernel
def b_R_wordOf_187_4 : List Ins := [(.aload_n 0, 0, 0, 0), (.ldc 108, 1, 11, 0), (.iload_n 1, 0, 0, 0), (.iload_n 2, 0, 0, 0)]
theorem k_R_wordOf_187_4 : bok m_R_wordOf 187 b_R_wordOf_187_4 = true := by decide +kernel
def b_R_wordOf_204_4 : List Ins := [(.aload_n 0, 0, 0, 0), (.ldc 110, 1, 12, 0), (.iload_n 1, 0, 0, 0), (.iload_n 2, 0, 0, 0)]
theorem k_R_wordOf_204_4 : bok m_R_wordOf 204 b_R_wordOf_204_4 = true := by decide +kernel
def b_R_wordOf_221_4 : List Ins := [(.aload_n 0, 0, 0, 0), (.ldc 112, 1, 13, 0), (.iload_n 1, 0, 0, 0), (.iload_n 2, 0, 0, 0)]
theorem k_R_wordOf_221_4 : bok m_R_wordOf 221 b_R_wordOf_221_4 = true := by decide +kernel
def b_R_wordOf_238_4 : List Ins := [(.aload_n 0, 0, 0, 0), (.ldc 114, 1, 14, 0), (.iload_n 1, 0, 0, 0), (.iload_n 2, 0, 0, 0)]
theorem k_R_wordOf_238_4 : bok m_R_wordOf 238 b_R_wordOf_238_4 = true := by decide +kernel
def b_R_wordOf_255_4 : List Ins := [(.aload_n 0, 0, 0, 0), (.ldc 116, 1, 15, 0), (.iload_n 1, 0, 0, 0), (.iload_n 2, 0, 0, 0)]
theorem k_R_wordOf_255_4 : bok m_R_wordOf 255 b_R_wordOf_255_4 = true := by decide +kernel
def b_R_wordOf_272_1 : List Ins := [(.sipush (20001), 0, 0, 0)]
theorem k_R_wordOf_272_1 : bok m_R_wordOf 272 b_R_wordOf_272_1 = true := by decide +kernel
def b_R_wordOf_266_1 : List Ins := [(.sipush (20005), 0, 0, 0)]
theorem k_R_wordOf_266_1 : bok m_R_wordOf 266 b_R_wordOf_266_1 = true := by decide +kernel
def b_R_wordOf_249_1 : List Ins := [(.sipush (20004), 0, 0, 0)]
theorem k_R_wordOf_249_1 : bok m_R_wordOf 249 b_R_wordOf_249_1 = true := by decide +kernel
def b_R_wordOf_232_1 : List Ins := [(.sipush (20003), 0, 0, 0)]
theorem k_R_wordOf_232_1 : bok m_R_wordOf 232 b_R_wordOf_232_1 = true := by decide +kernel
def b_R_wordOf_215_1 : List Ins := [(.sipush (20002), 0, 0, 0)]
theorem k_R_wordOf_215_1 : bok m_R_wordOf 215 b_R_wordOf_215_1 = true := by decide +kernel
def b_R_wordOf_198_1 : List Ins := [(.sipush (10005), 0, 0, 0)]
theorem k_R_wordOf_198_1 : bok m_R_wordOf 198 b_R_wordOf_198_1 = true := by decide +kernel
def b_R_wordOf_181_1 : List Ins := [(.sipush (10004), 0, 0, 0)]
theorem k_R_wordOf_181_1 : bok m_R_wordOf 181 b_R_wordOf_181_1 = true := by decide +kernel
def b_R_wordOf_164_1 : List Ins := [(.sipush (10003), 0, 0, 0)]
theorem k_R_wordOf_164_1 : bok m_R_wordOf 164 b_R_wordOf_164_1 = true := by decide +kernel
def b_R_wordOf_147_1 : List Ins := [(.sipush (10002), 0, 0, 0)]
theorem k_R_wordOf_147_1 : bok m_R_wordOf 147 b_R_wordOf_147_1 = true := by decide +kernel
def b_R_wordOf_130_1 : List Ins := [(.sipush (10001), 0, 0, 0)]
theorem k_R_wordOf_130_1 : bok m_R_wordOf 130 b_R_wordOf_130_1 = true := by decide +kernel
def b_R_wordOf_113_1 : List Ins := [(.sipush (10000), 0, 0, 0)]
theorem k_R_wordOf_113_1 : bok m_R_wordOf 113 b_R_wordOf_113_1 = true := by decide +kernel
def b_R_wordOf_96_1 : List Ins := [(.sipush (20015), 0, 0, 0)]
theorem k_R_wordOf_96_1 : bok m_R_wordOf 96 b_R_wordOf_96_1 = true := by decide +kernel
def b_R_wordOf_79_1 : List Ins := [(.sipush (20014), 0, 0, 0)]
theorem k_R_wordOf_79_1 : bok m_R_wordOf 79 b_R_wordOf_79_1 = true := by decide +kernel
def b_R_wordOf_62_1 : List Ins := [(.sipush (20013), 0, 0, 0)]
theorem k_R_wordOf_62_1 : bok m_R_wordOf 62 b_R_wordOf_62_1 = true := by decide +kernel
def b_R_wordOf_45_1 : List Ins := [(.sipush (20012), 0, 0, 0)]
theorem k_R_wordOf_45_1 : bok m_R_wordOf 45 b_R_wordOf_45_1 = true := by decide +kernel
def b_R_wordOf_28_1 : List Ins := [(.sipush (20011), 0, 0, 0)]
theorem k_R_wordOf_28_1 : bok m_R_wordOf 28 b_R_wordOf_28_1 = true := by decide +kernel
def b_R_wordOf_11_1 : List Ins := [(.sipush (20010), 0, 0, 0)]
theorem k_R_wordOf_11_1 : bok m_R_wordOf 11 b_R_wordOf_11_1 = true := by decide +kernel
theorem d_R_wordOf_5 : decode m_R_wordOf.2.1 5 = .ok (.invokevirtual 84, 3) := by decide +kernel
theorem d_R_wordOf_8 : decode m_R_wordOf.2.1 8 = .ok (.ifCond .eq (9), 3) := by decide +kernel
theorem d_R_wordOf_22 : decode m_R_wordOf.2.1 22 = .ok (.invokevirtual 84, 3) := by decide +kernel
theorem d_R_wordOf_25 : decode m_R_wordOf.2.1 25 = .ok (.ifCond .eq (9), 3) := by decide +kernel
theorem d_R_wordOf_39 : decode m_R_wordOf.2.1 39 = .ok (.invokevirtual 84, 3) := by decide +kernel
theorem d_R_wordOf_42 : decode m_R_wordOf.2.1 42 = .ok (.ifCond .eq (9), 3) := by decide +kernel
theorem d_R_wordOf_56 : decode m_R_wordOf.2.1 56 = .ok (.invokevirtual 84, 3) := by decide +kernel
theorem d_R_wordOf_59 : decode m_R_wordOf.2.1 59 = .ok (.ifCond .eq (9), 3) := by decide +kernel
theorem d_R_wordOf_73 : decode m_R_wordOf.2.1 73 = .ok (.invokevirtual 84, 3) := by decide +kernel
theorem d_R_wordOf_76 : decode m_R_wordOf.2.1 76 = .ok (.ifCond .eq (9), 3) := by decide +kernel
theorem d_R_wordOf_90 : decode m_R_wordOf.2.1 90 = .ok (.invokevirtual 84, 3) := by decide +kernel
theorem d_R_wordOf_93 : decode m_R_wordOf.2.1 93 = .ok (.ifCond .eq (9), 3) := by decide +kernel
theorem d_R_wordOf_107 : decode m_R_wordOf.2.1 107 = .ok (.invokevirtual 84, 3) := by decide +kernel
theorem d_R_wordOf_110 : decode m_R_wordOf.2.1 110 = .ok (.ifCond .eq (9), 3) := by decide +kernel
theorem d_R_wordOf_124 : decode m_R_wordOf.2.1 124 = .ok (.invokevirtual 84, 3) := by decide +kernel
theorem d_R_wordOf_127 : decode m_R_wordOf.2.1 127 = .ok (.ifCond .eq (9), 3) := by decide +kernel
theorem d_R_wordOf_141 : decode m_R_wordOf.2.1 141 = .ok (.invokevirtual 84, 3) := by decide +kernel
theorem d_R_wordOf_144 : decode m_R_wordOf.2.1 144 = .ok (.ifCond .eq (9), 3) := by decide +kernel
theorem d_R_wordOf_158 : decode m_R_wordOf.2.1 158 = .ok (.invokevirtual 84, 3) := by decide +kernel
theorem d_R_wordOf_161 : decode m_R_wordOf.2.1 161 = .ok (.ifCond .eq (9), 3) := by decide +kernel
theorem d_R_wordOf_175 : decode m_R_wordOf.2.1 175 = .ok (.invokevirtual 84, 3) := by decide +kernel
theorem d_R_wordOf_178 : decode m_R_wordOf.2.1 178 = .ok (.ifCond .eq (9), 3) := by decide +kernel
theorem d_R_wordOf_192 : decode m_R_wordOf.2.1 192 = .ok (.invokevirtual 84, 3) := by decide +kernel
theorem d_R_wordOf_195 : decode m_R_wordOf.2.1 195 = .ok (.ifCond .eq (9), 3) := by decide +kernel
theorem d_R_wordOf_209 : decode m_R_wordOf.2.1 209 = .ok (.invokevirtual 84, 3) := by decide +kernel
theorem d_R_wordOf_212 : decode m_R_wordOf.2.1 212 = .ok (.ifCond .eq (9), 3) := by decide +kernel
theorem d_R_wordOf_226 : decode m_R_wordOf.2.1 226 = .ok (.invokevirtual 84, 3) := by decide +kernel
theorem d_R_wordOf_229 : decode m_R_wordOf.2.1 229 = .ok (.ifCond .eq (9), 3) := by decide +kernel
theorem d_R_wordOf_243 : decode m_R_wordOf.2.1 243 = .ok (.invokevirtual 84, 3) := by decide +kernel
theorem d_R_wordOf_246 : decode m_R_wordOf.2.1 246 = .ok (.ifCond .eq (9), 3) := by decide +kernel
theorem d_R_wordOf_260 : decode m_R_wordOf.2.1 260 = .ok (.invokevirtual 84, 3) := by decide +kernel
theorem d_R_wordOf_263 : decode m_R_wordOf.2.1 263 = .ok (.ifCond .eq (9), 3) := by decide +kernel
theorem d_R_wordOf_275 : decode m_R_wordOf.2.1 275 = .ok (.ireturn, 1) := by decide +kernel
theorem d_R_wordOf_269 : decode m_R_wordOf.2.1 269 = .ok (.goto (6), 3) := by decide +kernel
theorem d_R_wordOf_252 : decode m_R_wordOf.2.1 252 = .ok (.goto (23), 3) := by decide +kernel
theorem d_R_wordOf_235 : decode m_R_wordOf.2.1 235 = .ok (.goto (40), 3) := by decide +kernel
theorem d_R_wordOf_218 : decode m_R_wordOf.2.1 218 = .ok (.goto (57), 3) := by decide +kernel
theorem d_R_wordOf_201 : decode m_R_wordOf.2.1 201 = .ok (.goto (74), 3) := by decide +kernel
theorem d_R_wordOf_184 : decode m_R_wordOf.2.1 184 = .ok (.goto (91), 3) := by decide +kernel
theorem d_R_wordOf_167 : decode m_R_wordOf.2.1 167 = .ok (.goto (108), 3) := by decide +kernel
theorem d_R_wordOf_150 : decode m_R_wordOf.2.1 150 = .ok (.goto (125), 3) := by decide +kernel
theorem d_R_wordOf_133 : decode m_R_wordOf.2.1 133 = .ok (.goto (142), 3) := by decide +kernel
theorem d_R_wordOf_116 : decode m_R_wordOf.2.1 116 = .ok (.goto (159), 3) := by decide +kernel
theorem d_R_wordOf_99 : decode m_R_wordOf.2.1 99 = .ok (.goto (176), 3) := by decide +kernel
theorem d_R_wordOf_82 : decode m_R_wordOf.2.1 82 = .ok (.goto (193), 3) := by decide +kernel
theorem d_R_wordOf_65 : decode m_R_wordOf.2.1 65 = .ok (.goto (210), 3) := by decide +kernel
theorem d_R_wordOf_48 : decode m_R_wordOf.2.1 48 = .ok (.goto (227), 3) := by decide +kernel
theorem d_R_wordOf_31 : decode m_R_wordOf.2.1 31 = .ok (.goto (244), 3) := by decide +kernel
theorem d_R_wordOf_14 : decode m_R_wordOf.2.1 14 = .ok (.goto (261), 3) := by decide +kernel
def f_R_wordOf  (S : hs) (x1 : Int32) (x2 : Int32) : Option (Int32 × hs) := bd (f_R_isWord  S 0 x1 x2) fun r1 S2 => (if r1 = 0 then bd (f_R_isWord  S2 1 x1 x2) fun r5 S6 => (if r5 = 0 then bd (f_R_isWord  S6 2 x1 x2) fun r9 S10 => (if r9 = 0 then bd (f_R_isWord  S10 3 x1 x2) fun r13 S14 => (if r13 = 0 then bd (f_R_isWord  S14 4 x1 x2) fun r17 S18 => (if r17 = 0 then bd (f_R_isWord  S18 5 x1 x2) fun r21 S22 => (if r21 = 0 then bd (f_R_isWord  S22 6 x1 x2) fun r25 S26 => (if r25 = 0 then bd (f_R_isWord  S26 7 x1 x2) fun r29 S30 => (if r29 = 0 then bd (f_R_isWord  S30 8 x1 x2) fun r33 S34 => (if r33 = 0 then bd (f_R_isWord  S34 9 x1 x2) fun r37 S38 => (if r37 = 0 then bd (f_R_isWord  S38 10 x1 x2) fun r41 S42 => (if r41 = 0 then bd (f_R_isWord  S42 11 x1 x2) fun r45 S46 => (if r45 = 0 then bd (f_R_isWord  S46 12 x1 x2) fun r49 S50 => (if r49 = 0 then bd (f_R_isWord  S50 13 x1 x2) fun r53 S54 => (if r53 = 0 then bd (f_R_isWord  S54 14 x1 x2) fun r57 S58 => (if r57 = 0 then bd (f_R_isWord  S58 15 x1 x2) fun r61 S62 => (if r61 = 0 then some ((20001 : Int32), S62) else some ((20005 : Int32), S62)) else some ((20004 : Int32), S58)) else some ((20003 : Int32), S54)) else some ((20002 : Int32), S50)) else some ((10005 : Int32), S46)) else some ((10004 : Int32), S42)) else some ((10003 : Int32), S38)) else some ((10002 : Int32), S34)) else some ((10001 : Int32), S30)) else some ((10000 : Int32), S26)) else some ((20015 : Int32), S22)) else some ((20014 : Int32), S18)) else some ((20013 : Int32), S14)) else some ((20012 : Int32), S10)) else some ((20011 : Int32), S6)) else some ((20010 : Int32), S2))
theorem c_R_wordOf (w : Wd) (d : Nat) (c : cx)   (S : hs) (x1 : Int32) (x2 : Int32)  {z : Int32 × hs} (H : f_R_wordOf S x1 x2 = some z) : Cl w (d + 7) m_R_wordOf [.ref 128, .int x1, .int x2] (mk c S) (some (.int z.1)) (mk c z.2) := by
  refine Cl.of (Nat.le_refl _) (Nat.le_refl _) (by decide +kernel) (Nat.le_of_ble_eq_true rfl) ?_
  unfold f_R_wordOf at H
  generalize hN (mk c S) = n0
  generalize hZ (mk c S) = z0
  show J w (d + 7) m_R_wordOf (n0, z0, some (.int z.1), mk c z.2) 0 [some (.ref 128), some (.int x1), some (.int x2)] [] (mk c S)
  refine J.run b_R_wordOf_0_4 k_R_wordOf_0_4 rfl (show J w (d + 7) m_R_wordOf (n0, z0, some (.int z.1), mk c z.2) 5 [some (.ref 128), some (.int x1), some (.int x2)] [.int x2, .int x1, .ref 0, .ref 128] (mk c S) from ?_)
  obtain ⟨r1, S2, h3, H⟩ := bd_e H
  refine J.callV (y := m_R_isWord) (av := [.ref 0, .int x1, .int x2]) (rest := []) (q := 128) l_R_84 d_R_wordOf_5 (isC_st rfl rfl) (c_R_isWord w (d + 0) c  S 0 x1 x2 (by decide) h3) rfl (Nat.le_of_ble_eq_true rfl) ⟨Nat.le_refl _, Nat.le_refl _⟩ (show J w (d + 7) m_R_wordOf (n0, z0, some (.int z.1), mk c z.2) 8 [some (.ref 128), some (.int x1), some (.int x2)] [.int r1] (mk c S2) from ?_)
  refine J.zeq (tgt := 17) d_R_wordOf_8 rfl (fun q4 => ?_) (fun q4 => ?_)
  · have H := ite_t H q4
    refine J.run b_R_wordOf_17_4 k_R_wordOf_17_4 rfl (show J w (d + 7) m_R_wordOf (n0, z0, some (.int z.1), mk c z.2) 22 [some (.ref 128), some (.int x1), some (.int x2)] [.int x2, .int x1, .ref 1, .ref 128] (mk c S2) from ?_)
    obtain ⟨r5, S6, h7, H⟩ := bd_e H
    refine J.callV (y := m_R_isWord) (av := [.ref 1, .int x1, .int x2]) (rest := []) (q := 128) l_R_84 d_R_wordOf_22 (isC_st rfl rfl) (c_R_isWord w (d + 0) c  S2 1 x1 x2 (by decide) h7) rfl (Nat.le_of_ble_eq_true rfl) ⟨Nat.le_refl _, Nat.le_refl _⟩ (show J w (d + 7) m_R_wordOf (n0, z0, some (.int z.1), mk c z.2) 25 [some (.ref 128), some (.int x1), some (.int x2)] [.int r5] (mk c S6) from ?_)
    refine J.zeq (tgt := 34) d_R_wordOf_25 rfl (fun q8 => ?_) (fun q8 => ?_)
    · have H := ite_t H q8
      refine J.run b_R_wordOf_34_4 k_R_wordOf_34_4 rfl (show J w (d + 7) m_R_wordOf (n0, z0, some (.int z.1), mk c z.2) 39 [some (.ref 128), some (.int x1), some (.int x2)] [.int x2, .int x1, .ref 2, .ref 128] (mk c S6) from ?_)
      obtain ⟨r9, S10, h11, H⟩ := bd_e H
      refine J.callV (y := m_R_isWord) (av := [.ref 2, .int x1, .int x2]) (rest := []) (q := 128) l_R_84 d_R_wordOf_39 (isC_st rfl rfl) (c_R_isWord w (d + 0) c  S6 2 x1 x2 (by decide) h11) rfl (Nat.le_of_ble_eq_true rfl) ⟨Nat.le_refl _, Nat.le_refl _⟩ (show J w (d + 7) m_R_wordOf (n0, z0, some (.int z.1), mk c z.2) 42 [some (.ref 128), some (.int x1), some (.int x2)] [.int r9] (mk c S10) from ?_)
      refine J.zeq (tgt := 51) d_R_wordOf_42 rfl (fun q12 => ?_) (fun q12 => ?_)
      · have H := ite_t H q12
        refine J.run b_R_wordOf_51_4 k_R_wordOf_51_4 rfl (show J w (d + 7) m_R_wordOf (n0, z0, some (.int z.1), mk c z.2) 56 [some (.ref 128), some (.int x1), some (.int x2)] [.int x2, .int x1, .ref 3, .ref 128] (mk c S10) from ?_)
        obtain ⟨r13, S14, h15, H⟩ := bd_e H
        refine J.callV (y := m_R_isWord) (av := [.ref 3, .int x1, .int x2]) (rest := []) (q := 128) l_R_84 d_R_wordOf_56 (isC_st rfl rfl) (c_R_isWord w (d + 0) c  S10 3 x1 x2 (by decide) h15) rfl (Nat.le_of_ble_eq_true rfl) ⟨Nat.le_refl _, Nat.le_refl _⟩ (show J w (d + 7) m_R_wordOf (n0, z0, some (.int z.1), mk c z.2) 59 [some (.ref 128), some (.int x1), some (.int x2)] [.int r13] (mk c S14) from ?_)
        refine J.zeq (tgt := 68) d_R_wordOf_59 rfl (fun q16 => ?_) (fun q16 => ?_)
        · have H := ite_t H q16
          refine J.run b_R_wordOf_68_4 k_R_wordOf_68_4 rfl (show J w (d + 7) m_R_wordOf (n0, z0, some (.int z.1), mk c z.2) 73 [some (.ref 128), some (.int x1), some (.int x2)] [.int x2, .int x1, .ref 4, .ref 128] (mk c S14) from ?_)
          obtain ⟨r17, S18, h19, H⟩ := bd_e H
          refine J.callV (y := m_R_isWord) (av := [.ref 4, .int x1, .int x2]) (rest := []) (q := 128) l_R_84 d_R_wordOf_73 (isC_st rfl rfl) (c_R_isWord w (d + 0) c  S14 4 x1 x2 (by decide) h19) rfl (Nat.le_of_ble_eq_true rfl) ⟨Nat.le_refl _, Nat.le_refl _⟩ (show J w (d + 7) m_R_wordOf (n0, z0, some (.int z.1), mk c z.2) 76 [some (.ref 128), some (.int x1), some (.int x2)] [.int r17] (mk c S18) from ?_)
          refine J.zeq (tgt := 85) d_R_wordOf_76 rfl (fun q20 => ?_) (fun q20 => ?_)
          · have H := ite_t H q20
            refine J.run b_R_wordOf_85_4 k_R_wordOf_85_4 rfl (show J w (d + 7) m_R_wordOf (n0, z0, some (.int z.1), mk c z.2) 90 [some (.ref 128), some (.int x1), some (.int x2)] [.int x2, .int x1, .ref 5, .ref 128] (mk c S18) from ?_)
            obtain ⟨r21, S22, h23, H⟩ := bd_e H
            refine J.callV (y := m_R_isWord) (av := [.ref 5, .int x1, .int x2]) (rest := []) (q := 128) l_R_84 d_R_wordOf_90 (isC_st rfl rfl) (c_R_isWord w (d + 0) c  S18 5 x1 x2 (by decide) h23) rfl (Nat.le_of_ble_eq_true rfl) ⟨Nat.le_refl _, Nat.le_refl _⟩ (show J w (d + 7) m_R_wordOf (n0, z0, some (.int z.1), mk c z.2) 93 [some (.ref 128), some (.int x1), some (.int x2)] [.int r21] (mk c S22) from ?_)
            refine J.zeq (tgt := 102) d_R_wordOf_93 rfl (fun q24 => ?_) (fun q24 => ?_)
            · have H := ite_t H q24
              refine J.run b_R_wordOf_102_4 k_R_wordOf_102_4 rfl (show J w (d + 7) m_R_wordOf (n0, z0, some (.int z.1), mk c z.2) 107 [some (.ref 128), some (.int x1), some (.int x2)] [.int x2, .int x1, .ref 6, .ref 128] (mk c S22) from ?_)
              obtain ⟨r25, S26, h27, H⟩ := bd_e H
              refine J.callV (y := m_R_isWord) (av := [.ref 6, .int x1, .int x2]) (rest := []) (q := 128) l_R_84 d_R_wordOf_107 (isC_st rfl rfl) (c_R_isWord w (d + 0) c  S22 6 x1 x2 (by decide) h27) rfl (Nat.le_of_ble_eq_true rfl) ⟨Nat.le_refl _, Nat.le_refl _⟩ (show J w (d + 7) m_R_wordOf (n0, z0, some (.int z.1), mk c z.2) 110 [some (.ref 128), some (.int x1), some (.int x2)] [.int r25] (mk c S26) from ?_)
              refine J.zeq (tgt := 119) d_R_wordOf_110 rfl (fun q28 => ?_) (fun q28 => ?_)
              · have H := ite_t H q28
                refine J.run b_R_wordOf_119_4 k_R_wordOf_119_4 rfl (show J w (d + 7) m_R_wordOf (n0, z0, some (.int z.1), mk c z.2) 124 [some (.ref 128), some (.int x1), some (.int x2)] [.int x2, .int x1, .ref 7, .ref 128] (mk c S26) from ?_)
                obtain ⟨r29, S30, h31, H⟩ := bd_e H
                refine J.callV (y := m_R_isWord) (av := [.ref 7, .int x1, .int x2]) (rest := []) (q := 128) l_R_84 d_R_wordOf_124 (isC_st rfl rfl) (c_R_isWord w (d + 0) c  S26 7 x1 x2 (by decide) h31) rfl (Nat.le_of_ble_eq_true rfl) ⟨Nat.le_refl _, Nat.le_refl _⟩ (show J w (d + 7) m_R_wordOf (n0, z0, some (.int z.1), mk c z.2) 127 [some (.ref 128), some (.int x1), some (.int x2)] [.int r29] (mk c S30) from ?_)
                refine J.zeq (tgt := 136) d_R_wordOf_127 rfl (fun q32 => ?_) (fun q32 => ?_)
                · have H := ite_t H q32
                  refine J.run b_R_wordOf_136_4 k_R_wordOf_136_4 rfl (show J w (d + 7) m_R_wordOf (n0, z0, some (.int z.1), mk c z.2) 141 [some (.ref 128), some (.int x1), some (.int x2)] [.int x2, .int x1, .ref 8, .ref 128] (mk c S30) from ?_)
                  obtain ⟨r33, S34, h35, H⟩ := bd_e H
                  refine J.callV (y := m_R_isWord) (av := [.ref 8, .int x1, .int x2]) (rest := []) (q := 128) l_R_84 d_R_wordOf_141 (isC_st rfl rfl) (c_R_isWord w (d + 0) c  S30 8 x1 x2 (by decide) h35) rfl (Nat.le_of_ble_eq_true rfl) ⟨Nat.le_refl _, Nat.le_refl _⟩ (show J w (d + 7) m_R_wordOf (n0, z0, some (.int z.1), mk c z.2) 144 [some (.ref 128), some (.int x1), some (.int x2)] [.int r33] (mk c S34) from ?_)
                  refine J.zeq (tgt := 153) d_R_wordOf_144 rfl (fun q36 => ?_) (fun q36 => ?_)
                  · have H := ite_t H q36
                    refine J.run b_R_wordOf_153_4 k_R_wordOf_153_4 rfl (show J w (d + 7) m_R_wordOf (n0, z0, some (.int z.1), mk c z.2) 158 [some (.ref 128), some (.int x1), some (.int x2)] [.int x2, .int x1, .ref 9, .ref 128] (mk c S34) from ?_)
                    obtain ⟨r37, S38, h39, H⟩ := bd_e H
                    refine J.callV (y := m_R_isWord) (av := [.ref 9, .int x1, .int x2]) (rest := []) (q := 128) l_R_84 d_R_wordOf_158 (isC_st rfl rfl) (c_R_isWord w (d + 0) c  S34 9 x1 x2 (by decide) h39) rfl (Nat.le_of_ble_eq_true rfl) ⟨Nat.le_refl _, Nat.le_refl _⟩ (show J w (d + 7) m_R_wordOf (n0, z0, some (.int z.1), mk c z.2) 161 [some (.ref 128), some (.int x1), some (.int x2)] [.int r37] (mk c S38) from ?_)
                    refine J.zeq (tgt := 170) d_R_wordOf_161 rfl (fun q40 => ?_) (fun q40 => ?_)
                    · have H := ite_t H q40
                      refine J.run b_R_wordOf_170_4 k_R_wordOf_170_4 rfl (show J w (d + 7) m_R_wordOf (n0, z0, some (.int z.1), mk c z.2) 175 [some (.ref 128), some (.int x1), some (.int x2)] [.int x2, .int x1, .ref 10, .ref 128] (mk c S38) from ?_)
                      obtain ⟨r41, S42, h43, H⟩ := bd_e H
                      refine J.callV (y := m_R_isWord) (av := [.ref 10, .int x1, .int x2]) (rest := []) (q := 128) l_R_84 d_R_wordOf_175 (isC_st rfl rfl) (c_R_isWord w (d + 0) c  S38 10 x1 x2 (by decide) h43) rfl (Nat.le_of_ble_eq_true rfl) ⟨Nat.le_refl _, Nat.le_refl _⟩ (show J w (d + 7) m_R_wordOf (n0, z0, some (.int z.1), mk c z.2) 178 [some (.ref 128), some (.int x1), some (.int x2)] [.int r41] (mk c S42) from ?_)
                      refine J.zeq (tgt := 187) d_R_wordOf_178 rfl (fun q44 => ?_) (fun q44 => ?_)
                      · have H := ite_t H q44
                        refine J.run b_R_wordOf_187_4 k_R_wordOf_187_4 rfl (show J w (d + 7) m_R_wordOf (n0, z0, some (.int z.1), mk c z.2) 192 [some (.ref 128), some (.int x1), some (.int x2)] [.int x2, .int x1, .ref 11, .ref 128] (mk c S42) from ?_)
                        obtain ⟨r45, S46, h47, H⟩ := bd_e H
                        refine J.callV (y := m_R_isWord) (av := [.ref 11, .int x1, .int x2]) (rest := []) (q := 128) l_R_84 d_R_wordOf_192 (isC_st rfl rfl) (c_R_isWord w (d + 0) c  S42 11 x1 x2 (by decide) h47) rfl (Nat.le_of_ble_eq_true rfl) ⟨Nat.le_refl _, Nat.le_refl _⟩ (show J w (d + 7) m_R_wordOf (n0, z0, some (.int z.1), mk c z.2) 195 [some (.ref 128), some (.int x1), some (.int x2)] [.int r45] (mk c S46) from ?_)
                        refine J.zeq (tgt := 204) d_R_wordOf_195 rfl (fun q48 => ?_) (fun q48 => ?_)
                        · have H := ite_t H q48
                          refine J.run b_R_wordOf_204_4 k_R_wordOf_204_4 rfl (show J w (d + 7) m_R_wordOf (n0, z0, some (.int z.1), mk c z.2) 209 [some (.ref 128), some (.int x1), some (.int x2)] [.int x2, .int x1, .ref 12, .ref 128] (mk c S46) from ?_)
                          obtain ⟨r49, S50, h51, H⟩ := bd_e H
                          refine J.callV (y := m_R_isWord) (av := [.ref 12, .int x1, .int x2]) (rest := []) (q := 128) l_R_84 d_R_wordOf_209 (isC_st rfl rfl) (c_R_isWord w (d + 0) c  S46 12 x1 x2 (by decide) h51) rfl (Nat.le_of_ble_eq_true rfl) ⟨Nat.le_refl _, Nat.le_refl _⟩ (show J w (d + 7) m_R_wordOf (n0, z0, some (.int z.1), mk c z.2) 212 [some (.ref 128), some (.int x1), some (.int x2)] [.int r49] (mk c S50) from ?_)
                          refine J.zeq (tgt := 221) d_R_wordOf_212 rfl (fun q52 => ?_) (fun q52 => ?_)
                          · have H := ite_t H q52
                            refine J.run b_R_wordOf_221_4 k_R_wordOf_221_4 rfl (show J w (d + 7) m_R_wordOf (n0, z0, some (.int z.1), mk c z.2) 226 [some (.ref 128), some (.int x1), some (.int x2)] [.int x2, .int x1, .ref 13, .ref 128] (mk c S50) from ?_)
                            obtain ⟨r53, S54, h55, H⟩ := bd_e H
                            refine J.callV (y := m_R_isWord) (av := [.ref 13, .int x1, .int x2]) (rest := []) (q := 128) l_R_84 d_R_wordOf_226 (isC_st rfl rfl) (c_R_isWord w (d + 0) c  S50 13 x1 x2 (by decide) h55) rfl (Nat.le_of_ble_eq_true rfl) ⟨Nat.le_refl _, Nat.le_refl _⟩ (show J w (d + 7) m_R_wordOf (n0, z0, some (.int z.1), mk c z.2) 229 [some (.ref 128), some (.int x1), some (.int x2)] [.int r53] (mk c S54) from ?_)
                            refine J.zeq (tgt := 238) d_R_wordOf_229 rfl (fun q56 => ?_) (fun q56 => ?_)
                            · have H := ite_t H q56
                              refine J.run b_R_wordOf_238_4 k_R_wordOf_238_4 rfl (show J w (d + 7) m_R_wordOf (n0, z0, some (.int z.1), mk c z.2) 243 [some (.ref 128), some (.int x1), some (.int x2)] [.int x2, .int x1, .ref 14, .ref 128] (mk c S54) from ?_)
                              obtain ⟨r57, S58, h59, H⟩ := bd_e H
                              refine J.callV (y := m_R_isWord) (av := [.ref 14, .int x1, .int x2]) (rest := []) (q := 128) l_R_84 d_R_wordOf_243 (isC_st rfl rfl) (c_R_isWord w (d + 0) c  S54 14 x1 x2 (by decide) h59) rfl (Nat.le_of_ble_eq_true rfl) ⟨Nat.le_refl _, Nat.le_refl _⟩ (show J w (d + 7) m_R_wordOf (n0, z0, some (.int z.1), mk c z.2) 246 [some (.ref 128), some (.int x1), some (.int x2)] [.int r57] (mk c S58) from ?_)
                              refine J.zeq (tgt := 255) d_R_wordOf_246 rfl (fun q60 => ?_) (fun q60 => ?_)
                              · have H := ite_t H q60
                                refine J.run b_R_wordOf_255_4 k_R_wordOf_255_4 rfl (show J w (d + 7) m_R_wordOf (n0, z0, some (.int z.1), mk c z.2) 260 [some (.ref 128), some (.int x1), some (.int x2)] [.int x2, .int x1, .ref 15, .ref 128] (mk c S58) from ?_)
                                obtain ⟨r61, S62, h63, H⟩ := bd_e H
                                refine J.callV (y := m_R_isWord) (av := [.ref 15, .int x1, .int x2]) (rest := []) (q := 128) l_R_84 d_R_wordOf_260 (isC_st rfl rfl) (c_R_isWord w (d + 0) c  S58 15 x1 x2 (by decide) h63) rfl (Nat.le_of_ble_eq_true rfl) ⟨Nat.le_refl _, Nat.le_refl _⟩ (show J w (d + 7) m_R_wordOf (n0, z0, some (.int z.1), mk c z.2) 263 [some (.ref 128), some (.int x1), some (.int x2)] [.int r61] (mk c S62) from ?_)
                                refine J.zeq (tgt := 272) d_R_wordOf_263 rfl (fun q64 => ?_) (fun q64 => ?_)
                                · have H := ite_t H q64
                                  refine J.run b_R_wordOf_272_1 k_R_wordOf_272_1 rfl (show J w (d + 7) m_R_wordOf (n0, z0, some (.int z.1), mk c z.2) 275 [some (.ref 128), some (.int x1), some (.int x2)] [.int (20001 : Int32)] (mk c S62) from ?_)
                                  obtain rfl := some_e H
                                  exact J.iret d_R_wordOf_275 rfl rfl
                                · have H := ite_f H q64
                                  refine J.run b_R_wordOf_266_1 k_R_wordOf_266_1 rfl (show J w (d + 7) m_R_wordOf (n0, z0, some (.int z.1), mk c z.2) 269 [some (.ref 128), some (.int x1), some (.int x2)] [.int (20005 : Int32)] (mk c S62) from ?_)
                                  refine J.goto (tgt := 275) d_R_wordOf_269 rfl ?_
                                  obtain rfl := some_e H
                                  exact J.iret d_R_wordOf_275 rfl rfl
                              · have H := ite_f H q60
                                refine J.run b_R_wordOf_249_1 k_R_wordOf_249_1 rfl (show J w (d + 7) m_R_wordOf (n0, z0, some (.int z.1), mk c z.2) 252 [some (.ref 128), some (.int x1), some (.int x2)] [.int (20004 : Int32)] (mk c S58) from ?_)
                                refine J.goto (tgt := 275) d_R_wordOf_252 rfl ?_
                                obtain rfl := some_e H
                                exact J.iret d_R_wordOf_275 rfl rfl
                            · have H := ite_f H q56
                              refine J.run b_R_wordOf_232_1 k_R_wordOf_232_1 rfl (show J w (d + 7) m_R_wordOf (n0, z0, some (.int z.1), mk c z.2) 235 [some (.ref 128), some (.int x1), some (.int x2)] [.int (20003 : Int32)] (mk c S54) from ?_)
                              refine J.goto (tgt := 275) d_R_wordOf_235 rfl ?_
                              obtain rfl := some_e H
                              exact J.iret d_R_wordOf_275 rfl rfl
                          · have H := ite_f H q52
                            refine J.run b_R_wordOf_215_1 k_R_wordOf_215_1 rfl (show J w (d + 7) m_R_wordOf (n0, z0, some (.int z.1), mk c z.2) 218 [some (.ref 128), some (.int x1), some (.int x2)] [.int (20002 : Int32)] (mk c S50) from ?_)
                            refine J.goto (tgt := 275) d_R_wordOf_218 rfl ?_
                            obtain rfl := some_e H
                            exact J.iret d_R_wordOf_275 rfl rfl
                        · have H := ite_f H q48
                          refine J.run b_R_wordOf_198_1 k_R_wordOf_198_1 rfl (show J w (d + 7) m_R_wordOf (n0, z0, some (.int z.1), mk c z.2) 201 [some (.ref 128), some (.int x1), some (.int x2)] [.int (10005 : Int32)] (mk c S46) from ?_)
                          refine J.goto (tgt := 275) d_R_wordOf_201 rfl ?_
                          obtain rfl := some_e H
                          exact J.iret d_R_wordOf_275 rfl rfl
                      · have H := ite_f H q44
                        refine J.run b_R_wordOf_181_1 k_R_wordOf_181_1 rfl (show J w (d + 7) m_R_wordOf (n0, z0, some (.int z.1), mk c z.2) 184 [some (.ref 128), some (.int x1), some (.int x2)] [.int (10004 : Int32)] (mk c S42) from ?_)
                        refine J.goto (tgt := 275) d_R_wordOf_184 rfl ?_
                        obtain rfl := some_e H
                        exact J.iret d_R_wordOf_275 rfl rfl
                    · have H := ite_f H q40
                      refine J.run b_R_wordOf_164_1 k_R_wordOf_164_1 rfl (show J w (d + 7) m_R_wordOf (n0, z0, some (.int z.1), mk c z.2) 167 [some (.ref 128), some (.int x1), some (.int x2)] [.int (10003 : Int32)] (mk c S38) from ?_)
                      refine J.goto (tgt := 275) d_R_wordOf_167 rfl ?_
                      obtain rfl := some_e H
                      exact J.iret d_R_wordOf_275 rfl rfl
                  · have H := ite_f H q36
                    refine J.run b_R_wordOf_147_1 k_R_wordOf_147_1 rfl (show J w (d + 7) m_R_wordOf (n0, z0, some (.int z.1), mk c z.2) 150 [some (.ref 128), some (.int x1), some (.int x2)] [.int (10002 : Int32)] (mk c S34) from ?_)
                    refine J.goto (tgt := 275) d_R_wordOf_150 rfl ?_
                    obtain rfl := some_e H
                    exact J.iret d_R_wordOf_275 rfl rfl
                · have H := ite_f H q32
                  refine J.run b_R_wordOf_130_1 k_R_wordOf_130_1 rfl (show J w (d + 7) m_R_wordOf (n0, z0, some (.int z.1), mk c z.2) 133 [some (.ref 128), some (.int x1), some (.int x2)] [.int (10001 : Int32)] (mk c S30) from ?_)
                  refine J.goto (tgt := 275) d_R_wordOf_133 rfl ?_
                  obtain rfl := some_e H
                  exact J.iret d_R_wordOf_275 rfl rfl
              · have H := ite_f H q28
                refine J.run b_R_wordOf_113_1 k_R_wordOf_113_1 rfl (show J w (d + 7) m_R_wordOf (n0, z0, some (.int z.1), mk c z.2) 116 [some (.ref 128), some (.int x1), some (.int x2)] [.int (10000 : Int32)] (mk c S26) from ?_)
                refine J.goto (tgt := 275) d_R_wordOf_116 rfl ?_
                obtain rfl := some_e H
                exact J.iret d_R_wordOf_275 rfl rfl
            · have H := ite_f H q24
              refine J.run b_R_wordOf_96_1 k_R_wordOf_96_1 rfl (show J w (d + 7) m_R_wordOf (n0, z0, some (.int z.1), mk c z.2) 99 [some (.ref 128), some (.int x1), some (.int x2)] [.int (20015 : Int32)] (mk c S22) from ?_)
              refine J.goto (tgt := 275) d_R_wordOf_99 rfl ?_
              obtain rfl := some_e H
              exact J.iret d_R_wordOf_275 rfl rfl
          · have H := ite_f H q20
            refine J.run b_R_wordOf_79_1 k_R_wordOf_79_1 rfl (show J w (d + 7) m_R_wordOf (n0, z0, some (.int z.1), mk c z.2) 82 [some (.ref 128), some (.int x1), some (.int x2)] [.int (20014 : Int32)] (mk c S18) from ?_)
            refine J.goto (tgt := 275) d_R_wordOf_82 rfl ?_
            obtain rfl := some_e H
            exact J.iret d_R_wordOf_275 rfl rfl
        · have H := ite_f H q16
          refine J.run b_R_wordOf_62_1 k_R_wordOf_62_1 rfl (show J w (d + 7) m_R_wordOf (n0, z0, some (.int z.1), mk c z.2) 65 [some (.ref 128), some (.int x1), some (.int x2)] [.int (20013 : Int32)] (mk c S14) from ?_)
          refine J.goto (tgt := 275) d_R_wordOf_65 rfl ?_
          obtain rfl := some_e H
          exact J.iret d_R_wordOf_275 rfl rfl
      · have H := ite_f H q12
        refine J.run b_R_wordOf_45_1 k_R_wordOf_45_1 rfl (show J w (d + 7) m_R_wordOf (n0, z0, some (.int z.1), mk c z.2) 48 [some (.ref 128), some (.int x1), some (.int x2)] [.int (20012 : Int32)] (mk c S10) from ?_)
        refine J.goto (tgt := 275) d_R_wordOf_48 rfl ?_
        obtain rfl := some_e H
        exact J.iret d_R_wordOf_275 rfl rfl
    · have H := ite_f H q8
      refine J.run b_R_wordOf_28_1 k_R_wordOf_28_1 rfl (show J w (d + 7) m_R_wordOf (n0, z0, some (.int z.1), mk c z.2) 31 [some (.ref 128), some (.int x1), some (.int x2)] [.int (20011 : Int32)] (mk c S6) from ?_)
      refine J.goto (tgt := 275) d_R_wordOf_31 rfl ?_
      obtain rfl := some_e H
      exact J.iret d_R_wordOf_275 rfl rfl
  · have H := ite_f H q4
    refine J.run b_R_wordOf_11_1 k_R_wordOf_11_1 rfl (show J w (d + 7) m_R_wordOf (n0, z0, some (.int z.1), mk c z.2) 14 [some (.ref 128), some (.int x1), some (.int x2)] [.int (20010 : Int32)] (mk c S2) from ?_)
    refine J.goto (tgt := 275) d_R_wordOf_14 rfl ?_
    obtain rfl := some_e H
    exact J.iret d_R_wordOf_275 rfl rfl
def b_R_tokenOf_0_4 : List Ins := [(.aload_n 0, 0, 0, 0), (.getfield 18, 3, 1, 2), (.iload_n 1, 0, 0, 0), (.baload, 0, 0, 0)]
theorem k_R_tokenOf_0_4 : bok m_R_tokenOf 0 b_R_tokenOf_0_4 = true := by decide +kernel
def b_R_tokenOf_19_4 : List Ins := [(.aload_n 0, 0, 0, 0), (.getfield 18, 3, 1, 2), (.iload_n 1, 0, 0, 0), (.baload, 0, 0, 0)]
theorem k_R_tokenOf_19_4 : bok m_R_tokenOf 19 b_R_tokenOf_19_4 = true := by decide +kernel
def b_R_tokenOf_51_8 : List Ins := [(.sipush (20100), 0, 0, 0), (.aload_n 0, 0, 0, 0), (.getfield 18, 3, 1, 2), (.iload_n 1, 0, 0, 0), (.baload, 0, 0, 0), (.sipush (255), 0, 0, 0), (.iand, 0, 0, 0), (.iadd, 0, 0, 0)]
theorem k_R_tokenOf_51_8 : bok m_R_tokenOf 51 b_R_tokenOf_51_8 = true := by decide +kernel
def b_R_tokenOf_31_4 : List Ins := [(.iload_n 2, 0, 0, 0), (.iload_n 1, 0, 0, 0), (.isub, 0, 0, 0), (.iconst (4), 0, 0, 0)]
theorem k_R_tokenOf_31_4 : bok m_R_tokenOf 31 b_R_tokenOf_31_4 = true := by decide +kernel
def b_R_tokenOf_44_3 : List Ins := [(.aload_n 0, 0, 0, 0), (.iload_n 1, 0, 0, 0), (.iload_n 2, 0, 0, 0)]
theorem k_R_tokenOf_44_3 : bok m_R_tokenOf 44 b_R_tokenOf_44_3 = true := by decide +kernel
def b_R_tokenOf_38_1 : List Ins := [(.sipush (20001), 0, 0, 0)]
theorem k_R_tokenOf_38_1 : bok m_R_tokenOf 38 b_R_tokenOf_38_1 = true := by decide +kernel
def b_R_tokenOf_12_3 : List Ins := [(.aload_n 0, 0, 0, 0), (.iload_n 1, 0, 0, 0), (.iload_n 2, 0, 0, 0)]
theorem k_R_tokenOf_12_3 : bok m_R_tokenOf 12 b_R_tokenOf_12_3 = true := by decide +kernel
theorem d_R_tokenOf_6 : decode m_R_tokenOf.2.1 6 = .ok (.invokestatic 70, 3) := by decide +kernel
theorem d_R_tokenOf_9 : decode m_R_tokenOf.2.1 9 = .ok (.ifCond .eq (10), 3) := by decide +kernel
theorem d_R_tokenOf_25 : decode m_R_tokenOf.2.1 25 = .ok (.invokestatic 73, 3) := by decide +kernel
theorem d_R_tokenOf_28 : decode m_R_tokenOf.2.1 28 = .ok (.ifCond .eq (23), 3) := by decide +kernel
theorem d_R_tokenOf_65 : decode m_R_tokenOf.2.1 65 = .ok (.ireturn, 1) := by decide +kernel
theorem d_R_tokenOf_35 : decode m_R_tokenOf.2.1 35 = .ok (.if_icmp .le (9), 3) := by decide +kernel
theorem d_R_tokenOf_47 : decode m_R_tokenOf.2.1 47 = .ok (.invokevirtual 79, 3) := by decide +kernel
theorem d_R_tokenOf_50 : decode m_R_tokenOf.2.1 50 = .ok (.ireturn, 1) := by decide +kernel
theorem d_R_tokenOf_41 : decode m_R_tokenOf.2.1 41 = .ok (.goto (9), 3) := by decide +kernel
theorem d_R_tokenOf_15 : decode m_R_tokenOf.2.1 15 = .ok (.invokevirtual 76, 3) := by decide +kernel
theorem d_R_tokenOf_18 : decode m_R_tokenOf.2.1 18 = .ok (.ireturn, 1) := by decide +kernel
def f_R_tokenOf  (S : hs) (x1 : Int32) (x2 : Int32) : Option (Int32 × hs) := ck (inb x1 200) (bd (f_R_isLetter  S (gI S 135 (x1).toNatClampNeg)) fun r2 S3 => (if r2 = 0 then bd (f_R_isDigit  S3 (gI S3 135 (x1).toNatClampNeg)) fun r6 S7 => (if r6 = 0 then some (((20100 : Int32) + ((gI S7 135 (x1).toNatClampNeg) &&& (255 : Int32))), S7) else (if (x2 - x1) ≤ (4 : Int32) then bd (f_R_numberOf  S7 x1 x2) fun r11 S12 => some (r11, S12) else some ((20001 : Int32), S7))) else bd (f_R_wordOf  S3 x1 x2) fun r14 S15 => some (r14, S15)))
theorem c_R_tokenOf (w : Wd) (d : Nat) (c : cx)   (S : hs) (x1 : Int32) (x2 : Int32)  {z : Int32 × hs} (H : f_R_tokenOf S x1 x2 = some z) : Cl w (d + 8) m_R_tokenOf [.ref 128, .int x1, .int x2] (mk c S) (some (.int z.1)) (mk c z.2) := by
  refine Cl.of (Nat.le_refl _) (Nat.le_refl _) (by decide +kernel) (Nat.le_of_ble_eq_true rfl) ?_
  unfold f_R_tokenOf at H
  generalize hN (mk c S) = n0
  generalize hZ (mk c S) = z0
  show J w (d + 8) m_R_tokenOf (n0, z0, some (.int z.1), mk c z.2) 0 [some (.ref 128), some (.int x1), some (.int x2)] [] (mk c S)
  obtain ⟨g1, H⟩ := ck_e H
  refine J.run b_R_tokenOf_0_4 k_R_tokenOf_0_4 rfl (And.intro (okO_st (S := S) rfl) (And.intro (okA_st (S := S) (n := 200) rfl g1) (show J w (d + 8) m_R_tokenOf (n0, z0, some (.int z.1), mk c z.2) 6 [some (.ref 128), some (.int x1), some (.int x2)] [.int (gI S 135 (x1).toNatClampNeg)] (mk c S) from ?_)))
  obtain ⟨r2, S3, h4, H⟩ := bd_e H
  refine J.callS (y := m_R_isLetter) (av := [.int (gI S 135 (x1).toNatClampNeg)]) (rest := []) l_R_70 d_R_tokenOf_6 (c_R_isLetter w (d + 6) c  S (gI S 135 (x1).toNatClampNeg) h4) rfl (Nat.le_of_ble_eq_true rfl) ⟨Nat.le_refl _, Nat.le_refl _⟩ (show J w (d + 8) m_R_tokenOf (n0, z0, some (.int z.1), mk c z.2) 9 [some (.ref 128), some (.int x1), some (.int x2)] [.int r2] (mk c S3) from ?_)
  refine J.zeq (tgt := 19) d_R_tokenOf_9 rfl (fun q5 => ?_) (fun q5 => ?_)
  · have H := ite_t H q5
    refine J.run b_R_tokenOf_19_4 k_R_tokenOf_19_4 rfl (And.intro (okO_st (S := S3) rfl) (And.intro (okA_st (S := S3) (n := 200) rfl g1) (show J w (d + 8) m_R_tokenOf (n0, z0, some (.int z.1), mk c z.2) 25 [some (.ref 128), some (.int x1), some (.int x2)] [.int (gI S3 135 (x1).toNatClampNeg)] (mk c S3) from ?_)))
    obtain ⟨r6, S7, h8, H⟩ := bd_e H
    refine J.callS (y := m_R_isDigit) (av := [.int (gI S3 135 (x1).toNatClampNeg)]) (rest := []) l_R_73 d_R_tokenOf_25 (c_R_isDigit w (d + 6) c  S3 (gI S3 135 (x1).toNatClampNeg) h8) rfl (Nat.le_of_ble_eq_true rfl) ⟨Nat.le_refl _, Nat.le_refl _⟩ (show J w (d + 8) m_R_tokenOf (n0, z0, some (.int z.1), mk c z.2) 28 [some (.ref 128), some (.int x1), some (.int x2)] [.int r6] (mk c S7) from ?_)
    refine J.zeq (tgt := 51) d_R_tokenOf_28 rfl (fun q9 => ?_) (fun q9 => ?_)
    · have H := ite_t H q9
      refine J.run b_R_tokenOf_51_8 k_R_tokenOf_51_8 rfl (And.intro (okO_st (S := S7) rfl) (And.intro (okA_st (S := S7) (n := 200) rfl g1) (show J w (d + 8) m_R_tokenOf (n0, z0, some (.int z.1), mk c z.2) 65 [some (.ref 128), some (.int x1), some (.int x2)] [.int ((20100 : Int32) + ((gI S7 135 (x1).toNatClampNeg) &&& (255 : Int32)))] (mk c S7) from ?_)))
      obtain rfl := some_e H
      exact J.iret d_R_tokenOf_65 rfl rfl
    · have H := ite_f H q9
      refine J.run b_R_tokenOf_31_4 k_R_tokenOf_31_4 rfl (show J w (d + 8) m_R_tokenOf (n0, z0, some (.int z.1), mk c z.2) 35 [some (.ref 128), some (.int x1), some (.int x2)] [.int (4 : Int32), .int (x2 - x1)] (mk c S7) from ?_)
      refine J.cle (tgt := 44) d_R_tokenOf_35 rfl (fun q10 => ?_) (fun q10 => ?_)
      · have H := ite_t H q10
        refine J.run b_R_tokenOf_44_3 k_R_tokenOf_44_3 rfl (show J w (d + 8) m_R_tokenOf (n0, z0, some (.int z.1), mk c z.2) 47 [some (.ref 128), some (.int x1), some (.int x2)] [.int x2, .int x1, .ref 128] (mk c S7) from ?_)
        obtain ⟨r11, S12, h13, H⟩ := bd_e H
        refine J.callV (y := m_R_numberOf) (av := [.int x1, .int x2]) (rest := []) (q := 128) l_R_79 d_R_tokenOf_47 (isC_st rfl rfl) (c_R_numberOf w (d + 6) c  S7 x1 x2 h13) rfl (Nat.le_of_ble_eq_true rfl) ⟨Nat.le_refl _, Nat.le_refl _⟩ (show J w (d + 8) m_R_tokenOf (n0, z0, some (.int z.1), mk c z.2) 50 [some (.ref 128), some (.int x1), some (.int x2)] [.int r11] (mk c S12) from ?_)
        obtain rfl := some_e H
        exact J.iret d_R_tokenOf_50 rfl rfl
      · have H := ite_f H q10
        refine J.run b_R_tokenOf_38_1 k_R_tokenOf_38_1 rfl (show J w (d + 8) m_R_tokenOf (n0, z0, some (.int z.1), mk c z.2) 41 [some (.ref 128), some (.int x1), some (.int x2)] [.int (20001 : Int32)] (mk c S7) from ?_)
        refine J.goto (tgt := 50) d_R_tokenOf_41 rfl ?_
        obtain rfl := some_e H
        exact J.iret d_R_tokenOf_50 rfl rfl
  · have H := ite_f H q5
    refine J.run b_R_tokenOf_12_3 k_R_tokenOf_12_3 rfl (show J w (d + 8) m_R_tokenOf (n0, z0, some (.int z.1), mk c z.2) 15 [some (.ref 128), some (.int x1), some (.int x2)] [.int x2, .int x1, .ref 128] (mk c S3) from ?_)
    obtain ⟨r14, S15, h16, H⟩ := bd_e H
    refine J.callV (y := m_R_wordOf) (av := [.int x1, .int x2]) (rest := []) (q := 128) l_R_76 d_R_tokenOf_15 (isC_st rfl rfl) (c_R_wordOf w (d + 0) c  S3 x1 x2 h16) rfl (Nat.le_of_ble_eq_true rfl) ⟨Nat.le_refl _, Nat.le_refl _⟩ (show J w (d + 8) m_R_tokenOf (n0, z0, some (.int z.1), mk c z.2) 18 [some (.ref 128), some (.int x1), some (.int x2)] [.int r14] (mk c S15) from ?_)
    obtain rfl := some_e H
    exact J.iret d_R_tokenOf_18 rfl rfl
def b_R_splitTape_0_5 : List Ins := [(.aload_n 0, 0, 0, 0), (.iconst (0), 0, 0, 0), (.putfield 52, 3, 5, 0), (.iconst (0), 0, 0, 0), (.istore_n 1, 0, 0, 0)]
theorem k_R_splitTape_0_5 : bok m_R_splitTape 0 b_R_splitTape_0_5 = true := by decide +kernel
def b_R_splitTape_7_3 : List Ins := [(.iload_n 1, 0, 0, 0), (.aload_n 0, 0, 0, 0), (.getfield 29, 3, 2, 0)]
theorem k_R_splitTape_7_3 : bok m_R_splitTape 7 b_R_splitTape_7_3 = true := by decide +kernel
def b_R_splitTape_15_2 : List Ins := [(.iload_n 1, 0, 0, 0), (.sipush (200), 0, 0, 0)]
theorem k_R_splitTape_15_2 : bok m_R_splitTape 15 b_R_splitTape_15_2 = true := by decide +kernel
def b_R_splitTape_22_5 : List Ins := [(.aload_n 0, 0, 0, 0), (.getfield 18, 3, 1, 2), (.iload_n 1, 0, 0, 0), (.baload, 0, 0, 0), (.bipush (32), 0, 0, 0)]
theorem k_R_splitTape_22_5 : bok m_R_splitTape 22 b_R_splitTape_22_5 = true := by decide +kernel
def b_R_splitTape_80_1 : List Ins := [(.iinc 1 (1), 0, 0, 0)]
theorem k_R_splitTape_80_1 : bok m_R_splitTape 80 b_R_splitTape_80_1 = true := by decide +kernel
def b_R_splitTape_33_2 : List Ins := [(.aload_n 0, 0, 0, 0), (.iload_n 1, 0, 0, 0)]
theorem k_R_splitTape_33_2 : bok m_R_splitTape 33 b_R_splitTape_33_2 = true := by decide +kernel
def b_R_splitTape_41_8 : List Ins := [(.aload_n 0, 0, 0, 0), (.getfield 22, 3, 3, 2), (.aload_n 0, 0, 0, 0), (.getfield 52, 3, 5, 0), (.aload_n 0, 0, 0, 0), (.iload_n 1, 0, 0, 0), (.aload_n 0, 0, 0, 0), (.iload_n 1, 0, 0, 0)]
theorem k_R_splitTape_41_8 : bok m_R_splitTape 41 b_R_splitTape_41_8 = true := by decide +kernel
def b_R_splitTape_59_14 : List Ins := [(.iastore, 0, 0, 0), (.aload_n 0, 0, 0, 0), (.getfield 26, 3, 4, 2), (.aload_n 0, 0, 0, 0), (.getfield 52, 3, 5, 0), (.iload_n 1, 0, 0, 0), (.iastore, 0, 0, 0), (.aload_n 0, 0, 0, 0), (.dup, 0, 0, 0), (.getfield 52, 3, 5, 0), (.iconst (1), 0, 0, 0), (.iadd, 0, 0, 0), (.putfield 52, 3, 5, 0), (.iinc 1 (1), 0, 0, 0)]
theorem k_R_splitTape_59_14 : bok m_R_splitTape 59 b_R_splitTape_59_14 = true := by decide +kernel
theorem d_R_splitTape_12 : decode m_R_splitTape.2.1 12 = .ok (.if_icmp .ge (74), 3) := by decide +kernel
theorem d_R_splitTape_86 : decode m_R_splitTape.2.1 86 = .ok (.return_, 1) := by decide +kernel
theorem d_R_splitTape_19 : decode m_R_splitTape.2.1 19 = .ok (.if_icmp .ge (67), 3) := by decide +kernel
theorem d_R_splitTape_30 : decode m_R_splitTape.2.1 30 = .ok (.if_icmp .eq (50), 3) := by decide +kernel
theorem d_R_splitTape_83 : decode m_R_splitTape.2.1 83 = .ok (.goto (-76), 3) := by decide +kernel
theorem d_R_splitTape_35 : decode m_R_splitTape.2.1 35 = .ok (.invokevirtual 58, 3) := by decide +kernel
theorem d_R_splitTape_38 : decode m_R_splitTape.2.1 38 = .ok (.ifCond .ne (42), 3) := by decide +kernel
theorem d_R_splitTape_53 : decode m_R_splitTape.2.1 53 = .ok (.invokevirtual 62, 3) := by decide +kernel
theorem d_R_splitTape_56 : decode m_R_splitTape.2.1 56 = .ok (.invokevirtual 66, 3) := by decide +kernel
def lp_R_splitTape_7    : Nat → hs → Int32 → Option (Int32 × hs)
  | 0, _, _ => none
  | n + 1, S, x1 => (if (gI S 128 2) ≤ x1 then some ((0 : Int32), S) else (if (200 : Int32) ≤ x1 then some ((0 : Int32), S) else ck (inb x1 200) ((if (gI S 135 (x1).toNatClampNeg) = (32 : Int32) then lp_R_splitTape_7  n S (x1 + (1 : Int32)) else bd (f_R_goesOn  S x1) fun r5 S6 => (if r5 = 0 then bd (f_R_endOfRun  S6 x1) fun r9 S10 => bd (f_R_tokenOf  S10 x1 r9) fun r12 S13 => ck (inb (gI S6 128 5) 200) (ck (inb (gI (uI S13 136 ((gI S6 128 5)).toNatClampNeg r12) 128 5) 200) (lp_R_splitTape_7  n (uI (uI (uI S13 136 ((gI S6 128 5)).toNatClampNeg r12) 137 ((gI (uI S13 136 ((gI S6 128 5)).toNatClampNeg r12) 128 5)).toNatClampNeg x1) 128 5 ((gI (uI (uI S13 136 ((gI S6 128 5)).toNatClampNeg r12) 137 ((gI (uI S13 136 ((gI S6 128 5)).toNatClampNeg r12) 128 5)).toNatClampNeg x1) 128 5) + (1 : Int32))) (x1 + (1 : Int32)))) else lp_R_splitTape_7  n S6 (x1 + (1 : Int32)))))))
def f_R_splitTape  (S : hs)  : Option (Int32 × hs) := lp_R_splitTape_7  1000 (uI S 128 5 (0 : Int32)) (0 : Int32)
theorem lo_R_splitTape_7 (w : Wd) (d : Nat) (c : cx) {n0 z0 : Nat} {z : Int32 × hs}       :
    ∀ (n : Nat) (S : hs) (x1 : Int32), lp_R_splitTape_7  n S x1 = some z → J w (d + 9) m_R_splitTape (n0, z0, none, mk c z.2) 7 [some (.ref 128), some (.int x1)] [] (mk c S) := by
  intro n
  induction n with
  | zero => intro S x1 H; cases H
  | succ n ih =>
    intro S x1 H
    rw [lp_R_splitTape_7] at H
    refine J.run b_R_splitTape_7_3 k_R_splitTape_7_3 rfl (And.intro (okO_st (S := S) rfl) (show J w (d + 9) m_R_splitTape (n0, z0, none, mk c z.2) 12 [some (.ref 128), some (.int x1)] [.int (gI S 128 2), .int x1] (mk c S) from ?_))
    refine J.cge (tgt := 86) d_R_splitTape_12 rfl (fun q1 => ?_) (fun q1 => ?_)
    · have H := ite_t H q1
      obtain rfl := some_e H
      exact J.vret d_R_splitTape_86 rfl rfl
    · have H := ite_f H q1
      refine J.run b_R_splitTape_15_2 k_R_splitTape_15_2 rfl (show J w (d + 9) m_R_splitTape (n0, z0, none, mk c z.2) 19 [some (.ref 128), some (.int x1)] [.int (200 : Int32), .int x1] (mk c S) from ?_)
      refine J.cge (tgt := 86) d_R_splitTape_19 rfl (fun q2 => ?_) (fun q2 => ?_)
      · have H := ite_t H q2
        obtain rfl := some_e H
        exact J.vret d_R_splitTape_86 rfl rfl
      · have H := ite_f H q2
        obtain ⟨g3, H⟩ := ck_e H
        refine J.run b_R_splitTape_22_5 k_R_splitTape_22_5 rfl (And.intro (okO_st (S := S) rfl) (And.intro (okA_st (S := S) (n := 200) rfl g3) (show J w (d + 9) m_R_splitTape (n0, z0, none, mk c z.2) 30 [some (.ref 128), some (.int x1)] [.int (32 : Int32), .int (gI S 135 (x1).toNatClampNeg)] (mk c S) from ?_)))
        refine J.ceq (tgt := 80) d_R_splitTape_30 rfl (fun q4 => ?_) (fun q4 => ?_)
        · have H := ite_t H q4
          refine J.run b_R_splitTape_80_1 k_R_splitTape_80_1 rfl (show J w (d + 9) m_R_splitTape (n0, z0, none, mk c z.2) 83 [some (.ref 128), some (.int (x1 + (1 : Int32)))] [] (mk c S) from ?_)
          refine J.goto (tgt := 7) d_R_splitTape_83 rfl ?_
          refine J.mask [true, true] ?_
          exact ih S (x1 + (1 : Int32)) H
        · have H := ite_f H q4
          refine J.run b_R_splitTape_33_2 k_R_splitTape_33_2 rfl (show J w (d + 9) m_R_splitTape (n0, z0, none, mk c z.2) 35 [some (.ref 128), some (.int x1)] [.int x1, .ref 128] (mk c S) from ?_)
          obtain ⟨r5, S6, h7, H⟩ := bd_e H
          refine J.callV (y := m_R_goesOn) (av := [.int x1]) (rest := []) (q := 128) l_R_58 d_R_splitTape_35 (isC_st rfl rfl) (c_R_goesOn w (d + 6) c  S x1 h7) rfl (Nat.le_of_ble_eq_true rfl) ⟨Nat.le_refl _, Nat.le_refl _⟩ (show J w (d + 9) m_R_splitTape (n0, z0, none, mk c z.2) 38 [some (.ref 128), some (.int x1)] [.int r5] (mk c S6) from ?_)
          refine J.zne (tgt := 80) d_R_splitTape_38 rfl (fun q8 => ?_) (fun q8 => ?_)
          · have H := ite_f H q8
            refine J.run b_R_splitTape_80_1 k_R_splitTape_80_1 rfl (show J w (d + 9) m_R_splitTape (n0, z0, none, mk c z.2) 83 [some (.ref 128), some (.int (x1 + (1 : Int32)))] [] (mk c S6) from ?_)
            refine J.goto (tgt := 7) d_R_splitTape_83 rfl ?_
            refine J.mask [true, true] ?_
            exact ih S6 (x1 + (1 : Int32)) H
          · have H := ite_t H q8
            refine J.run b_R_splitTape_41_8 k_R_splitTape_41_8 rfl (And.intro (okO_st (S := S6) rfl) (And.intro (okO_st (S := S6) rfl) (show J w (d + 9) m_R_splitTape (n0, z0, none, mk c z.2) 53 [some (.ref 128), some (.int x1)] [.int x1, .ref 128, .int x1, .ref 128, .int (gI S6 128 5), .ref 136] (mk c S6) from ?_)))
            obtain ⟨r9, S10, h11, H⟩ := bd_e H
            refine J.callV (y := m_R_endOfRun) (av := [.int x1]) (rest := [.int x1, .ref 128, .int (gI S6 128 5), .ref 136]) (q := 128) l_R_62 d_R_splitTape_53 (isC_st rfl rfl) (c_R_endOfRun w (d + 5) c  S6 x1 h11) rfl (Nat.le_of_ble_eq_true rfl) ⟨Nat.le_refl _, Nat.le_refl _⟩ (show J w (d + 9) m_R_splitTape (n0, z0, none, mk c z.2) 56 [some (.ref 128), some (.int x1)] [.int r9, .int x1, .ref 128, .int (gI S6 128 5), .ref 136] (mk c S10) from ?_)
            obtain ⟨r12, S13, h14, H⟩ := bd_e H
            refine J.callV (y := m_R_tokenOf) (av := [.int x1, .int r9]) (rest := [.int (gI S6 128 5), .ref 136]) (q := 128) l_R_66 d_R_splitTape_56 (isC_st rfl rfl) (c_R_tokenOf w (d + 0) c  S10 x1 r9 h14) rfl (Nat.le_of_ble_eq_true rfl) ⟨Nat.le_refl _, Nat.le_refl _⟩ (show J w (d + 9) m_R_splitTape (n0, z0, none, mk c z.2) 59 [some (.ref 128), some (.int x1)] [.int r12, .int (gI S6 128 5), .ref 136] (mk c S13) from ?_)
            obtain ⟨g15, H⟩ := ck_e H
            obtain ⟨g16, H⟩ := ck_e H
            refine J.run b_R_splitTape_59_14 k_R_splitTape_59_14 rfl (And.intro (okB_st (S := S13) (n := 200) rfl g15) (And.intro (okO_st (S := (uI S13 136 ((gI S6 128 5)).toNatClampNeg r12)) rfl) (And.intro (okO_st (S := (uI S13 136 ((gI S6 128 5)).toNatClampNeg r12)) rfl) (And.intro (okB_st (S := (uI S13 136 ((gI S6 128 5)).toNatClampNeg r12)) (n := 200) rfl g16) (And.intro (okO_st (S := (uI (uI S13 136 ((gI S6 128 5)).toNatClampNeg r12) 137 ((gI (uI S13 136 ((gI S6 128 5)).toNatClampNeg r12) 128 5)).toNatClampNeg x1)) rfl) (And.intro (okO_st (S := (uI (uI S13 136 ((gI S6 128 5)).toNatClampNeg r12) 137 ((gI (uI S13 136 ((gI S6 128 5)).toNatClampNeg r12) 128 5)).toNatClampNeg x1)) rfl) (show J w (d + 9) m_R_splitTape (n0, z0, none, mk c z.2) 83 [some (.ref 128), some (.int (x1 + (1 : Int32)))] [] (mk c (uI (uI (uI S13 136 ((gI S6 128 5)).toNatClampNeg r12) 137 ((gI (uI S13 136 ((gI S6 128 5)).toNatClampNeg r12) 128 5)).toNatClampNeg x1) 128 5 ((gI (uI (uI S13 136 ((gI S6 128 5)).toNatClampNeg r12) 137 ((gI (uI S13 136 ((gI S6 128 5)).toNatClampNeg r12) 128 5)).toNatClampNeg x1) 128 5) + (1 : Int32)))) from ?_)))))))
            refine J.goto (tgt := 7) d_R_splitTape_83 rfl ?_
            refine J.mask [true, true] ?_
            exact ih (uI (uI (uI S13 136 ((gI S6 128 5)).toNatClampNeg r12) 137 ((gI (uI S13 136 ((gI S6 128 5)).toNatClampNeg r12) 128 5)).toNatClampNeg x1) 128 5 ((gI (uI (uI S13 136 ((gI S6 128 5)).toNatClampNeg r12) 137 ((gI (uI S13 136 ((gI S6 128 5)).toNatClampNeg r12) 128 5)).toNatClampNeg x1) 128 5) + (1 : Int32))) (x1 + (1 : Int32)) H
theorem c_R_splitTape (w : Wd) (d : Nat) (c : cx)   (S : hs)   {z : Int32 × hs} (H : f_R_splitTape S = some z) : Cl w (d + 9) m_R_splitTape [.ref 128] (mk c S) (none) (mk c z.2) := by
  refine Cl.of (Nat.le_refl _) (Nat.le_refl _) (by decide +kernel) (Nat.le_of_ble_eq_true rfl) ?_
  unfold f_R_splitTape at H
  generalize hN (mk c S) = n0
  generalize hZ (mk c S) = z0
  show J w (d + 9) m_R_splitTape (n0, z0, none, mk c z.2) 0 [some (.ref 128), none] [] (mk c S)
  refine J.run b_R_splitTape_0_5 k_R_splitTape_0_5 rfl (And.intro (okO_st (S := S) rfl) (show J w (d + 9) m_R_splitTape (n0, z0, none, mk c z.2) 7 [some (.ref 128), some (.int (0 : Int32))] [] (mk c (uI S 128 5 (0 : Int32))) from ?_))
  refine J.mask [true, true] ?_
  refine lo_R_splitTape_7 w d c   1000 (uI S 128 5 (0 : Int32)) (0 : Int32) H
def b_R_advance_0_9 : List Ins := [(.aload_n 0, 0, 0, 0), (.dup, 0, 0, 0), (.getfield 39, 3, 6, 0), (.iconst (1), 0, 0, 0), (.iadd, 0, 0, 0), (.putfield 39, 3, 6, 0), (.aload_n 0, 0, 0, 0), (.aload_n 0, 0, 0, 0), (.getfield 39, 3, 6, 0)]
theorem k_R_advance_0_9 : bok m_R_advance 0 b_R_advance_0_9 = true := by decide +kernel
def b_R_advance_51_2 : List Ins := [(.sipush (20000), 0, 0, 0), (.putfield 45, 3, 7, 0)]
theorem k_R_advance_51_2 : bok m_R_advance 51 b_R_advance_51_2 = true := by decide +kernel
def b_R_advance_18_4 : List Ins := [(.aload_n 0, 0, 0, 0), (.getfield 39, 3, 6, 0), (.aload_n 0, 0, 0, 0), (.getfield 52, 3, 5, 0)]
theorem k_R_advance_18_4 : bok m_R_advance 18 b_R_advance_18_4 = true := by decide +kernel
def b_R_advance_29_3 : List Ins := [(.aload_n 0, 0, 0, 0), (.getfield 39, 3, 6, 0), (.sipush (200), 0, 0, 0)]
theorem k_R_advance_29_3 : bok m_R_advance 29 b_R_advance_29_3 = true := by decide +kernel
def b_R_advance_39_5 : List Ins := [(.aload_n 0, 0, 0, 0), (.getfield 22, 3, 3, 2), (.aload_n 0, 0, 0, 0), (.getfield 39, 3, 6, 0), (.iaload, 0, 0, 0)]
theorem k_R_advance_39_5 : bok m_R_advance 39 b_R_advance_39_5 = true := by decide +kernel
def b_R_advance_54_1 : List Ins := [(.putfield 45, 3, 7, 0)]
theorem k_R_advance_54_1 : bok m_R_advance 54 b_R_advance_54_1 = true := by decide +kernel
theorem d_R_advance_15 : decode m_R_advance.2.1 15 = .ok (.ifCond .lt (36), 3) := by decide +kernel
theorem d_R_advance_57 : decode m_R_advance.2.1 57 = .ok (.return_, 1) := by decide +kernel
theorem d_R_advance_26 : decode m_R_advance.2.1 26 = .ok (.if_icmp .ge (25), 3) := by decide +kernel
theorem d_R_advance_36 : decode m_R_advance.2.1 36 = .ok (.if_icmp .ge (15), 3) := by decide +kernel
theorem d_R_advance_48 : decode m_R_advance.2.1 48 = .ok (.goto (6), 3) := by decide +kernel
def f_R_advance  (S : hs)  : Option (Int32 × hs) := (if (gI (uI S 128 6 ((gI S 128 6) + (1 : Int32))) 128 6) < 0 then some ((0 : Int32), (uI (uI S 128 6 ((gI S 128 6) + (1 : Int32))) 128 7 (20000 : Int32))) else (if (gI (uI S 128 6 ((gI S 128 6) + (1 : Int32))) 128 5) ≤ (gI (uI S 128 6 ((gI S 128 6) + (1 : Int32))) 128 6) then some ((0 : Int32), (uI (uI S 128 6 ((gI S 128 6) + (1 : Int32))) 128 7 (20000 : Int32))) else (if (200 : Int32) ≤ (gI (uI S 128 6 ((gI S 128 6) + (1 : Int32))) 128 6) then some ((0 : Int32), (uI (uI S 128 6 ((gI S 128 6) + (1 : Int32))) 128 7 (20000 : Int32))) else ck (inb (gI (uI S 128 6 ((gI S 128 6) + (1 : Int32))) 128 6) 200) (some ((0 : Int32), (uI (uI S 128 6 ((gI S 128 6) + (1 : Int32))) 128 7 (gI (uI S 128 6 ((gI S 128 6) + (1 : Int32))) 136 ((gI (uI S 128 6 ((gI S 128 6) + (1 : Int32))) 128 6)).toNatClampNeg)))))))
theorem c_R_advance (w : Wd) (d : Nat) (c : cx)   (S : hs)   {z : Int32 × hs} (H : f_R_advance S = some z) : Cl w (d + 1) m_R_advance [.ref 128] (mk c S) (none) (mk c z.2) := by
  refine Cl.of (Nat.le_refl _) (Nat.le_refl _) (by decide +kernel) (Nat.le_of_ble_eq_true rfl) ?_
  unfold f_R_advance at H
  generalize hN (mk c S) = n0
  generalize hZ (mk c S) = z0
  show J w (d + 1) m_R_advance (n0, z0, none, mk c z.2) 0 [some (.ref 128)] [] (mk c S)
  refine J.run b_R_advance_0_9 k_R_advance_0_9 rfl (And.intro (okO_st (S := S) rfl) (And.intro (okO_st (S := S) rfl) (And.intro (okO_st (S := (uI S 128 6 ((gI S 128 6) + (1 : Int32)))) rfl) (show J w (d + 1) m_R_advance (n0, z0, none, mk c z.2) 15 [some (.ref 128)] [.int (gI (uI S 128 6 ((gI S 128 6) + (1 : Int32))) 128 6), .ref 128] (mk c (uI S 128 6 ((gI S 128 6) + (1 : Int32)))) from ?_))))
  refine J.zlt (tgt := 51) d_R_advance_15 rfl (fun q1 => ?_) (fun q1 => ?_)
  · have H := ite_t H q1
    refine J.run b_R_advance_51_2 k_R_advance_51_2 rfl (And.intro (okO_st (S := (uI S 128 6 ((gI S 128 6) + (1 : Int32)))) rfl) (show J w (d + 1) m_R_advance (n0, z0, none, mk c z.2) 57 [some (.ref 128)] [] (mk c (uI (uI S 128 6 ((gI S 128 6) + (1 : Int32))) 128 7 (20000 : Int32))) from ?_))
    obtain rfl := some_e H
    exact J.vret d_R_advance_57 rfl rfl
  · have H := ite_f H q1
    refine J.run b_R_advance_18_4 k_R_advance_18_4 rfl (And.intro (okO_st (S := (uI S 128 6 ((gI S 128 6) + (1 : Int32)))) rfl) (And.intro (okO_st (S := (uI S 128 6 ((gI S 128 6) + (1 : Int32)))) rfl) (show J w (d + 1) m_R_advance (n0, z0, none, mk c z.2) 26 [some (.ref 128)] [.int (gI (uI S 128 6 ((gI S 128 6) + (1 : Int32))) 128 5), .int (gI (uI S 128 6 ((gI S 128 6) + (1 : Int32))) 128 6), .ref 128] (mk c (uI S 128 6 ((gI S 128 6) + (1 : Int32)))) from ?_)))
    refine J.cge (tgt := 51) d_R_advance_26 rfl (fun q2 => ?_) (fun q2 => ?_)
    · have H := ite_t H q2
      refine J.run b_R_advance_51_2 k_R_advance_51_2 rfl (And.intro (okO_st (S := (uI S 128 6 ((gI S 128 6) + (1 : Int32)))) rfl) (show J w (d + 1) m_R_advance (n0, z0, none, mk c z.2) 57 [some (.ref 128)] [] (mk c (uI (uI S 128 6 ((gI S 128 6) + (1 : Int32))) 128 7 (20000 : Int32))) from ?_))
      obtain rfl := some_e H
      exact J.vret d_R_advance_57 rfl rfl
    · have H := ite_f H q2
      refine J.run b_R_advance_29_3 k_R_advance_29_3 rfl (And.intro (okO_st (S := (uI S 128 6 ((gI S 128 6) + (1 : Int32)))) rfl) (show J w (d + 1) m_R_advance (n0, z0, none, mk c z.2) 36 [some (.ref 128)] [.int (200 : Int32), .int (gI (uI S 128 6 ((gI S 128 6) + (1 : Int32))) 128 6), .ref 128] (mk c (uI S 128 6 ((gI S 128 6) + (1 : Int32)))) from ?_))
      refine J.cge (tgt := 51) d_R_advance_36 rfl (fun q3 => ?_) (fun q3 => ?_)
      · have H := ite_t H q3
        refine J.run b_R_advance_51_2 k_R_advance_51_2 rfl (And.intro (okO_st (S := (uI S 128 6 ((gI S 128 6) + (1 : Int32)))) rfl) (show J w (d + 1) m_R_advance (n0, z0, none, mk c z.2) 57 [some (.ref 128)] [] (mk c (uI (uI S 128 6 ((gI S 128 6) + (1 : Int32))) 128 7 (20000 : Int32))) from ?_))
        obtain rfl := some_e H
        exact J.vret d_R_advance_57 rfl rfl
      · have H := ite_f H q3
        obtain ⟨g4, H⟩ := ck_e H
        refine J.run b_R_advance_39_5 k_R_advance_39_5 rfl (And.intro (okO_st (S := (uI S 128 6 ((gI S 128 6) + (1 : Int32)))) rfl) (And.intro (okO_st (S := (uI S 128 6 ((gI S 128 6) + (1 : Int32)))) rfl) (And.intro (okA_st (S := (uI S 128 6 ((gI S 128 6) + (1 : Int32)))) (n := 200) rfl g4) (show J w (d + 1) m_R_advance (n0, z0, none, mk c z.2) 48 [some (.ref 128)] [.int (gI (uI S 128 6 ((gI S 128 6) + (1 : Int32))) 136 ((gI (uI S 128 6 ((gI S 128 6) + (1 : Int32))) 128 6)).toNatClampNeg), .ref 128] (mk c (uI S 128 6 ((gI S 128 6) + (1 : Int32)))) from ?_))))
        refine J.goto (tgt := 54) d_R_advance_48 rfl ?_
        refine J.run b_R_advance_54_1 k_R_advance_54_1 rfl (And.intro (okO_st (S := (uI S 128 6 ((gI S 128 6) + (1 : Int32)))) rfl) (show J w (d + 1) m_R_advance (n0, z0, none, mk c z.2) 57 [some (.ref 128)] [] (mk c (uI (uI S 128 6 ((gI S 128 6) + (1 : Int32))) 128 7 (gI (uI S 128 6 ((gI S 128 6) + (1 : Int32))) 136 ((gI (uI S 128 6 ((gI S 128 6) + (1 : Int32))) 128 6)).toNatClampNeg))) from ?_))
        obtain rfl := some_e H
        exact J.vret d_R_advance_57 rfl rfl
def b_A_addStep_0_3 : List Ins := [(.aload_n 0, 0, 0, 0), (.getfield 31, 2, 6, 0), (.bipush (100), 0, 0, 0)]
theorem k_A_addStep_0_3 : bok m_A_addStep 0 b_A_addStep_0_3 = true := by decide +kernel
def b_A_addStep_9_24 : List Ins := [(.aload_n 0, 0, 0, 0), (.getfield 18, 2, 2, 2), (.aload_n 0, 0, 0, 0), (.getfield 31, 2, 6, 0), (.iload_n 1, 0, 0, 0), (.iastore, 0, 0, 0), (.aload_n 0, 0, 0, 0), (.getfield 21, 2, 3, 2), (.aload_n 0, 0, 0, 0), (.getfield 31, 2, 6, 0), (.iload_n 2, 0, 0, 0), (.iastore, 0, 0, 0), (.aload_n 0, 0, 0, 0), (.getfield 24, 2, 4, 2), (.aload_n 0, 0, 0, 0), (.getfield 31, 2, 6, 0), (.iload_n 3, 0, 0, 0), (.iastore, 0, 0, 0), (.aload_n 0, 0, 0, 0), (.dup, 0, 0, 0), (.getfield 31, 2, 6, 0), (.iconst (1), 0, 0, 0), (.iadd, 0, 0, 0), (.putfield 31, 2, 6, 0)]
theorem k_A_addStep_9_24 : bok m_A_addStep 9 b_A_addStep_9_24 = true := by decide +kernel
theorem d_A_addStep_6 : decode m_A_addStep.2.1 6 = .ok (.if_icmp .ge (43), 3) := by decide +kernel
theorem d_A_addStep_49 : decode m_A_addStep.2.1 49 = .ok (.return_, 1) := by decide +kernel
def f_A_addStep_129  (S : hs) (x1 : Int32) (x2 : Int32) (x3 : Int32) : Option (Int32 × hs) := (if (100 : Int32) ≤ (gI S 129 6) then some ((0 : Int32), S) else ck (inb (gI S 129 6) 100) (ck (inb (gI (uI S 132 ((gI S 129 6)).toNatClampNeg x1) 129 6) 100) (ck (inb (gI (uI (uI S 132 ((gI S 129 6)).toNatClampNeg x1) 133 ((gI (uI S 132 ((gI S 129 6)).toNatClampNeg x1) 129 6)).toNatClampNeg x2) 129 6) 100) (some ((0 : Int32), (uI (uI (uI (uI S 132 ((gI S 129 6)).toNatClampNeg x1) 133 ((gI (uI S 132 ((gI S 129 6)).toNatClampNeg x1) 129 6)).toNatClampNeg x2) 134 ((gI (uI (uI S 132 ((gI S 129 6)).toNatClampNeg x1) 133 ((gI (uI S 132 ((gI S 129 6)).toNatClampNeg x1) 129 6)).toNatClampNeg x2) 129 6)).toNatClampNeg x3) 129 6 ((gI (uI (uI (uI S 132 ((gI S 129 6)).toNatClampNeg x1) 133 ((gI (uI S 132 ((gI S 129 6)).toNatClampNeg x1) 129 6)).toNatClampNeg x2) 134 ((gI (uI (uI S 132 ((gI S 129 6)).toNatClampNeg x1) 133 ((gI (uI S 132 ((gI S 129 6)).toNatClampNeg x1) 129 6)).toNatClampNeg x2) 129 6)).toNatClampNeg x3) 129 6) + (1 : Int32))))))))
theorem c_A_addStep_129 (w : Wd) (d : Nat) (c : cx)   (S : hs) (x1 : Int32) (x2 : Int32) (x3 : Int32)  {z : Int32 × hs} (H : f_A_addStep_129 S x1 x2 x3 = some z) : Cl w (d + 1) m_A_addStep [.ref 129, .int x1, .int x2, .int x3] (mk c S) (none) (mk c z.2) := by
  refine Cl.of (Nat.le_refl _) (Nat.le_refl _) (by decide +kernel) (Nat.le_of_ble_eq_true rfl) ?_
  unfold f_A_addStep_129 at H
  generalize hN (mk c S) = n0
  generalize hZ (mk c S) = z0
  show J w (d + 1) m_A_addStep (n0, z0, none, mk c z.2) 0 [some (.ref 129), some (.int x1), some (.int x2), some (.int x3)] [] (mk c S)
  refine J.run b_A_addStep_0_3 k_A_addStep_0_3 rfl (And.intro (okO_st (S := S) rfl) (show J w (d + 1) m_A_addStep (n0, z0, none, mk c z.2) 6 [some (.ref 129), some (.int x1), some (.int x2), some (.int x3)] [.int (100 : Int32), .int (gI S 129 6)] (mk c S) from ?_))
  refine J.cge (tgt := 49) d_A_addStep_6 rfl (fun q1 => ?_) (fun q1 => ?_)
  · have H := ite_t H q1
    obtain rfl := some_e H
    exact J.vret d_A_addStep_49 rfl rfl
  · have H := ite_f H q1
    obtain ⟨g2, H⟩ := ck_e H
    obtain ⟨g3, H⟩ := ck_e H
    obtain ⟨g4, H⟩ := ck_e H
    refine J.run b_A_addStep_9_24 k_A_addStep_9_24 rfl (And.intro (okO_st (S := S) rfl) (And.intro (okO_st (S := S) rfl) (And.intro (okB_st (S := S) (n := 100) rfl g2) (And.intro (okO_st (S := (uI S 132 ((gI S 129 6)).toNatClampNeg x1)) rfl) (And.intro (okO_st (S := (uI S 132 ((gI S 129 6)).toNatClampNeg x1)) rfl) (And.intro (okB_st (S := (uI S 132 ((gI S 129 6)).toNatClampNeg x1)) (n := 100) rfl g3) (And.intro (okO_st (S := (uI (uI S 132 ((gI S 129 6)).toNatClampNeg x1) 133 ((gI (uI S 132 ((gI S 129 6)).toNatClampNeg x1) 129 6)).toNatClampNeg x2)) rfl) (And.intro (okO_st (S := (uI (uI S 132 ((gI S 129 6)).toNatClampNeg x1) 133 ((gI (uI S 132 ((gI S 129 6)).toNatClampNeg x1) 129 6)).toNatClampNeg x2)) rfl) (And.intro (okB_st (S := (uI (uI S 132 ((gI S 129 6)).toNatClampNeg x1) 133 ((gI (uI S 132 ((gI S 129 6)).toNatClampNeg x1) 129 6)).toNatClampNeg x2)) (n := 100) rfl g4) (And.intro (okO_st (S := (uI (uI (uI S 132 ((gI S 129 6)).toNatClampNeg x1) 133 ((gI (uI S 132 ((gI S 129 6)).toNatClampNeg x1) 129 6)).toNatClampNeg x2) 134 ((gI (uI (uI S 132 ((gI S 129 6)).toNatClampNeg x1) 133 ((gI (uI S 132 ((gI S 129 6)).toNatClampNeg x1) 129 6)).toNatClampNeg x2) 129 6)).toNatClampNeg x3)) rfl) (And.intro (okO_st (S := (uI (uI (uI S 132 ((gI S 129 6)).toNatClampNeg x1) 133 ((gI (uI S 132 ((gI S 129 6)).toNatClampNeg x1) 129 6)).toNatClampNeg x2) 134 ((gI (uI (uI S 132 ((gI S 129 6)).toNatClampNeg x1) 133 ((gI (uI S 132 ((gI S 129 6)).toNatClampNeg x1) 129 6)).toNatClampNeg x2) 129 6)).toNatClampNeg x3)) rfl) (show J w (d + 1) m_A_addStep (n0, z0, none, mk c z.2) 49 [some (.ref 129), some (.int x1), some (.int x2), some (.int x3)] [] (mk c (uI (uI (uI (uI S 132 ((gI S 129 6)).toNatClampNeg x1) 133 ((gI (uI S 132 ((gI S 129 6)).toNatClampNeg x1) 129 6)).toNatClampNeg x2) 134 ((gI (uI (uI S 132 ((gI S 129 6)).toNatClampNeg x1) 133 ((gI (uI S 132 ((gI S 129 6)).toNatClampNeg x1) 129 6)).toNatClampNeg x2) 129 6)).toNatClampNeg x3) 129 6 ((gI (uI (uI (uI S 132 ((gI S 129 6)).toNatClampNeg x1) 133 ((gI (uI S 132 ((gI S 129 6)).toNatClampNeg x1) 129 6)).toNatClampNeg x2) 134 ((gI (uI (uI S 132 ((gI S 129 6)).toNatClampNeg x1) 133 ((gI (uI S 132 ((gI S 129 6)).toNatClampNeg x1) 129 6)).toNatClampNeg x2) 129 6)).toNatClampNeg x3) 129 6) + (1 : Int32)))) from ?_))))))))))))
    obtain rfl := some_e H
    exact J.vret d_A_addStep_49 rfl rfl
def b_R_readComparison_0_5 : List Ins := [(.aload_n 0, 0, 0, 0), (.getfield 45, 3, 7, 0), (.istore_n 1, 0, 0, 0), (.iload_n 1, 0, 0, 0), (.sipush (20000), 0, 0, 0)]
theorem k_R_readComparison_0_5 : bok m_R_readComparison 0 b_R_readComparison_0_5 = true := by decide +kernel
def b_R_readComparison_14_1 : List Ins := [(.aload_n 0, 0, 0, 0)]
theorem k_R_readComparison_14_1 : bok m_R_readComparison 14 b_R_readComparison_14_1 = true := by decide +kernel
def b_R_readComparison_18_5 : List Ins := [(.aload_n 0, 0, 0, 0), (.getfield 45, 3, 7, 0), (.istore_n 2, 0, 0, 0), (.iload_n 2, 0, 0, 0), (.sipush (20160), 0, 0, 0)]
theorem k_R_readComparison_18_5 : bok m_R_readComparison 18 b_R_readComparison_18_5 = true := by decide +kernel
def b_R_readComparison_46_1 : List Ins := [(.aload_n 0, 0, 0, 0)]
theorem k_R_readComparison_46_1 : bok m_R_readComparison 46 b_R_readComparison_46_1 = true := by decide +kernel
def b_R_readComparison_50_5 : List Ins := [(.aload_n 0, 0, 0, 0), (.getfield 45, 3, 7, 0), (.istore_n 3, 0, 0, 0), (.iload_n 3, 0, 0, 0), (.sipush (20000), 0, 0, 0)]
theorem k_R_readComparison_50_5 : bok m_R_readComparison 50 b_R_readComparison_50_5 = true := by decide +kernel
def b_R_readComparison_64_1 : List Ins := [(.aload_n 0, 0, 0, 0)]
theorem k_R_readComparison_64_1 : bok m_R_readComparison 64 b_R_readComparison_64_1 = true := by decide +kernel
def b_R_readComparison_68_4 : List Ins := [(.aload_n 0, 0, 0, 0), (.getfield 14, 3, 0, 2), (.iload_n 2, 0, 0, 0), (.sipush (20160), 0, 0, 0)]
theorem k_R_readComparison_68_4 : bok m_R_readComparison 68 b_R_readComparison_68_4 = true := by decide +kernel
def b_R_readComparison_83_2 : List Ins := [(.iload_n 2, 0, 0, 0), (.sipush (20161), 0, 0, 0)]
theorem k_R_readComparison_83_2 : bok m_R_readComparison 83 b_R_readComparison_83_2 = true := by decide +kernel
def b_R_readComparison_94_3 : List Ins := [(.iconst (2), 0, 0, 0), (.iload_n 1, 0, 0, 0), (.iload_n 3, 0, 0, 0)]
theorem k_R_readComparison_94_3 : bok m_R_readComparison 94 b_R_readComparison_94_3 = true := by decide +kernel
def b_R_readComparison_100_1 : List Ins := [(.iconst (1), 0, 0, 0)]
theorem k_R_readComparison_100_1 : bok m_R_readComparison 100 b_R_readComparison_100_1 = true := by decide +kernel
def b_R_readComparison_90_1 : List Ins := [(.iconst (1), 0, 0, 0)]
theorem k_R_readComparison_90_1 : bok m_R_readComparison 90 b_R_readComparison_90_1 = true := by decide +kernel
def b_R_readComparison_95_2 : List Ins := [(.iload_n 1, 0, 0, 0), (.iload_n 3, 0, 0, 0)]
theorem k_R_readComparison_95_2 : bok m_R_readComparison 95 b_R_readComparison_95_2 = true := by decide +kernel
def b_R_readComparison_79_1 : List Ins := [(.iconst (0), 0, 0, 0)]
theorem k_R_readComparison_79_1 : bok m_R_readComparison 79 b_R_readComparison_79_1 = true := by decide +kernel
def b_R_readComparison_62_1 : List Ins := [(.iconst (0), 0, 0, 0)]
theorem k_R_readComparison_62_1 : bok m_R_readComparison 62 b_R_readComparison_62_1 = true := by decide +kernel
def b_R_readComparison_30_2 : List Ins := [(.iload_n 2, 0, 0, 0), (.sipush (20161), 0, 0, 0)]
theorem k_R_readComparison_30_2 : bok m_R_readComparison 30 b_R_readComparison_30_2 = true := by decide +kernel
def b_R_readComparison_37_2 : List Ins := [(.iload_n 2, 0, 0, 0), (.sipush (20162), 0, 0, 0)]
theorem k_R_readComparison_37_2 : bok m_R_readComparison 37 b_R_readComparison_37_2 = true := by decide +kernel
def b_R_readComparison_44_1 : List Ins := [(.iconst (0), 0, 0, 0)]
theorem k_R_readComparison_44_1 : bok m_R_readComparison 44 b_R_readComparison_44_1 = true := by decide +kernel
def b_R_readComparison_12_1 : List Ins := [(.iconst (0), 0, 0, 0)]
theorem k_R_readComparison_12_1 : bok m_R_readComparison 12 b_R_readComparison_12_1 = true := by decide +kernel
theorem d_R_readComparison_9 : decode m_R_readComparison.2.1 9 = .ok (.if_icmp .lt (5), 3) := by decide +kernel
theorem d_R_readComparison_15 : decode m_R_readComparison.2.1 15 = .ok (.invokevirtual 42, 3) := by decide +kernel
theorem d_R_readComparison_27 : decode m_R_readComparison.2.1 27 = .ok (.if_icmp .eq (19), 3) := by decide +kernel
theorem d_R_readComparison_47 : decode m_R_readComparison.2.1 47 = .ok (.invokevirtual 42, 3) := by decide +kernel
theorem d_R_readComparison_59 : decode m_R_readComparison.2.1 59 = .ok (.if_icmp .lt (5), 3) := by decide +kernel
theorem d_R_readComparison_65 : decode m_R_readComparison.2.1 65 = .ok (.invokevirtual 42, 3) := by decide +kernel
theorem d_R_readComparison_76 : decode m_R_readComparison.2.1 76 = .ok (.if_icmp .ne (7), 3) := by decide +kernel
theorem d_R_readComparison_87 : decode m_R_readComparison.2.1 87 = .ok (.if_icmp .ne (7), 3) := by decide +kernel
theorem d_R_readComparison_97 : decode m_R_readComparison.2.1 97 = .ok (.invokevirtual 138, 3) := by decide +kernel
theorem d_R_readComparison_101 : decode m_R_readComparison.2.1 101 = .ok (.ireturn, 1) := by decide +kernel
theorem d_R_readComparison_91 : decode m_R_readComparison.2.1 91 = .ok (.goto (4), 3) := by decide +kernel
theorem d_R_readComparison_80 : decode m_R_readComparison.2.1 80 = .ok (.goto (15), 3) := by decide +kernel
theorem d_R_readComparison_63 : decode m_R_readComparison.2.1 63 = .ok (.ireturn, 1) := by decide +kernel
theorem d_R_readComparison_34 : decode m_R_readComparison.2.1 34 = .ok (.if_icmp .eq (12), 3) := by decide +kernel
theorem d_R_readComparison_41 : decode m_R_readComparison.2.1 41 = .ok (.if_icmp .eq (5), 3) := by decide +kernel
theorem d_R_readComparison_45 : decode m_R_readComparison.2.1 45 = .ok (.ireturn, 1) := by decide +kernel
theorem d_R_readComparison_13 : decode m_R_readComparison.2.1 13 = .ok (.ireturn, 1) := by decide +kernel
def f_R_readComparison  (S : hs)  : Option (Int32 × hs) := (if (gI S 128 7) < (20000 : Int32) then bd (f_R_advance  S) fun r2 S3 => (if (gI S3 128 7) = (20160 : Int32) then bd (f_R_advance  S3) fun r6 S7 => (if (gI S7 128 7) < (20000 : Int32) then bd (f_R_advance  S7) fun r10 S11 => (if (gI S3 128 7) = (20160 : Int32) then bd (f_A_addStep_129  S11 (0 : Int32) (gI S 128 7) (gI S7 128 7)) fun r21 S22 => some ((1 : Int32), S22) else (if (gI S3 128 7) = (20161 : Int32) then bd (f_A_addStep_129  S11 (1 : Int32) (gI S 128 7) (gI S7 128 7)) fun r18 S19 => some ((1 : Int32), S19) else bd (f_A_addStep_129  S11 (2 : Int32) (gI S 128 7) (gI S7 128 7)) fun r15 S16 => some ((1 : Int32), S16))) else some ((0 : Int32), S7)) else (if (gI S3 128 7) = (20161 : Int32) then bd (f_R_advance  S3) fun r25 S26 => (if (gI S26 128 7) < (20000 : Int32) then bd (f_R_advance  S26) fun r29 S30 => (if (gI S3 128 7) = (20160 : Int32) then bd (f_A_addStep_129  S30 (0 : Int32) (gI S 128 7) (gI S26 128 7)) fun r40 S41 => some ((1 : Int32), S41) else (if (gI S3 128 7) = (20161 : Int32) then bd (f_A_addStep_129  S30 (1 : Int32) (gI S 128 7) (gI S26 128 7)) fun r37 S38 => some ((1 : Int32), S38) else bd (f_A_addStep_129  S30 (2 : Int32) (gI S 128 7) (gI S26 128 7)) fun r34 S35 => some ((1 : Int32), S35))) else some ((0 : Int32), S26)) else (if (gI S3 128 7) = (20162 : Int32) then bd (f_R_advance  S3) fun r44 S45 => (if (gI S45 128 7) < (20000 : Int32) then bd (f_R_advance  S45) fun r48 S49 => (if (gI S3 128 7) = (20160 : Int32) then bd (f_A_addStep_129  S49 (0 : Int32) (gI S 128 7) (gI S45 128 7)) fun r59 S60 => some ((1 : Int32), S60) else (if (gI S3 128 7) = (20161 : Int32) then bd (f_A_addStep_129  S49 (1 : Int32) (gI S 128 7) (gI S45 128 7)) fun r56 S57 => some ((1 : Int32), S57) else bd (f_A_addStep_129  S49 (2 : Int32) (gI S 128 7) (gI S45 128 7)) fun r53 S54 => some ((1 : Int32), S54))) else some ((0 : Int32), S45)) else some ((0 : Int32), S3)))) else some ((0 : Int32), S))
theorem c_R_readComparison (w : Wd) (d : Nat) (c : cx)   (S : hs)   {z : Int32 × hs} (H : f_R_readComparison S = some z) : Cl w (d + 2) m_R_readComparison [.ref 128] (mk c S) (some (.int z.1)) (mk c z.2) := by
  refine Cl.of (Nat.le_refl _) (Nat.le_refl _) (by decide +kernel) (Nat.le_of_ble_eq_true rfl) ?_
  unfold f_R_readComparison at H
  generalize hN (mk c S) = n0
  generalize hZ (mk c S) = z0
  show J w (d + 2) m_R_readComparison (n0, z0, some (.int z.1), mk c z.2) 0 [some (.ref 128), none, none, none] [] (mk c S)
  refine J.run b_R_readComparison_0_5 k_R_readComparison_0_5 rfl (And.intro (okO_st (S := S) rfl) (show J w (d + 2) m_R_readComparison (n0, z0, some (.int z.1), mk c z.2) 9 [some (.ref 128), some (.int (gI S 128 7)), none, none] [.int (20000 : Int32), .int (gI S 128 7)] (mk c S) from ?_))
  refine J.clt (tgt := 14) d_R_readComparison_9 rfl (fun q1 => ?_) (fun q1 => ?_)
  · have H := ite_t H q1
    refine J.run b_R_readComparison_14_1 k_R_readComparison_14_1 rfl (show J w (d + 2) m_R_readComparison (n0, z0, some (.int z.1), mk c z.2) 15 [some (.ref 128), some (.int (gI S 128 7)), none, none] [.ref 128] (mk c S) from ?_)
    obtain ⟨r2, S3, h4, H⟩ := bd_e H
    refine J.callV (y := m_R_advance) (av := []) (rest := []) (q := 128) l_R_42 d_R_readComparison_15 (isC_st rfl rfl) (c_R_advance w (d + 0) c  S h4) rfl (Nat.le_of_ble_eq_true rfl) ⟨Nat.le_refl _, Nat.le_refl _⟩ (show J w (d + 2) m_R_readComparison (n0, z0, some (.int z.1), mk c z.2) 18 [some (.ref 128), some (.int (gI S 128 7)), none, none] [] (mk c S3) from ?_)
    refine J.run b_R_readComparison_18_5 k_R_readComparison_18_5 rfl (And.intro (okO_st (S := S3) rfl) (show J w (d + 2) m_R_readComparison (n0, z0, some (.int z.1), mk c z.2) 27 [some (.ref 128), some (.int (gI S 128 7)), some (.int (gI S3 128 7)), none] [.int (20160 : Int32), .int (gI S3 128 7)] (mk c S3) from ?_))
    refine J.ceq (tgt := 46) d_R_readComparison_27 rfl (fun q5 => ?_) (fun q5 => ?_)
    · have H := ite_t H q5
      refine J.run b_R_readComparison_46_1 k_R_readComparison_46_1 rfl (show J w (d + 2) m_R_readComparison (n0, z0, some (.int z.1), mk c z.2) 47 [some (.ref 128), some (.int (gI S 128 7)), some (.int (gI S3 128 7)), none] [.ref 128] (mk c S3) from ?_)
      obtain ⟨r6, S7, h8, H⟩ := bd_e H
      refine J.callV (y := m_R_advance) (av := []) (rest := []) (q := 128) l_R_42 d_R_readComparison_47 (isC_st rfl rfl) (c_R_advance w (d + 0) c  S3 h8) rfl (Nat.le_of_ble_eq_true rfl) ⟨Nat.le_refl _, Nat.le_refl _⟩ (show J w (d + 2) m_R_readComparison (n0, z0, some (.int z.1), mk c z.2) 50 [some (.ref 128), some (.int (gI S 128 7)), some (.int (gI S3 128 7)), none] [] (mk c S7) from ?_)
      refine J.run b_R_readComparison_50_5 k_R_readComparison_50_5 rfl (And.intro (okO_st (S := S7) rfl) (show J w (d + 2) m_R_readComparison (n0, z0, some (.int z.1), mk c z.2) 59 [some (.ref 128), some (.int (gI S 128 7)), some (.int (gI S3 128 7)), some (.int (gI S7 128 7))] [.int (20000 : Int32), .int (gI S7 128 7)] (mk c S7) from ?_))
      refine J.clt (tgt := 64) d_R_readComparison_59 rfl (fun q9 => ?_) (fun q9 => ?_)
      · have H := ite_t H q9
        refine J.run b_R_readComparison_64_1 k_R_readComparison_64_1 rfl (show J w (d + 2) m_R_readComparison (n0, z0, some (.int z.1), mk c z.2) 65 [some (.ref 128), some (.int (gI S 128 7)), some (.int (gI S3 128 7)), some (.int (gI S7 128 7))] [.ref 128] (mk c S7) from ?_)
        obtain ⟨r10, S11, h12, H⟩ := bd_e H
        refine J.callV (y := m_R_advance) (av := []) (rest := []) (q := 128) l_R_42 d_R_readComparison_65 (isC_st rfl rfl) (c_R_advance w (d + 0) c  S7 h12) rfl (Nat.le_of_ble_eq_true rfl) ⟨Nat.le_refl _, Nat.le_refl _⟩ (show J w (d + 2) m_R_readComparison (n0, z0, some (.int z.1), mk c z.2) 68 [some (.ref 128), some (.int (gI S 128 7)), some (.int (gI S3 128 7)), some (.int (gI S7 128 7))] [] (mk c S11) from ?_)
        refine J.run b_R_readComparison_68_4 k_R_readComparison_68_4 rfl (And.intro (okO_st (S := S11) rfl) (show J w (d + 2) m_R_readComparison (n0, z0, some (.int z.1), mk c z.2) 76 [some (.ref 128), some (.int (gI S 128 7)), some (.int (gI S3 128 7)), some (.int (gI S7 128 7))] [.int (20160 : Int32), .int (gI S3 128 7), .ref 129] (mk c S11) from ?_))
        refine J.cne (tgt := 83) d_R_readComparison_76 rfl (fun q13 => ?_) (fun q13 => ?_)
        · have H := ite_f H q13
          refine J.run b_R_readComparison_83_2 k_R_readComparison_83_2 rfl (show J w (d + 2) m_R_readComparison (n0, z0, some (.int z.1), mk c z.2) 87 [some (.ref 128), some (.int (gI S 128 7)), some (.int (gI S3 128 7)), some (.int (gI S7 128 7))] [.int (20161 : Int32), .int (gI S3 128 7), .ref 129] (mk c S11) from ?_)
          refine J.cne (tgt := 94) d_R_readComparison_87 rfl (fun q14 => ?_) (fun q14 => ?_)
          · have H := ite_f H q14
            refine J.run b_R_readComparison_94_3 k_R_readComparison_94_3 rfl (show J w (d + 2) m_R_readComparison (n0, z0, some (.int z.1), mk c z.2) 97 [some (.ref 128), some (.int (gI S 128 7)), some (.int (gI S3 128 7)), some (.int (gI S7 128 7))] [.int (gI S7 128 7), .int (gI S 128 7), .int (2 : Int32), .ref 129] (mk c S11) from ?_)
            obtain ⟨r15, S16, h17, H⟩ := bd_e H
            refine J.callV (y := m_A_addStep) (av := [.int (2 : Int32), .int (gI S 128 7), .int (gI S7 128 7)]) (rest := []) (q := 129) l_R_138 d_R_readComparison_97 (isC_st rfl rfl) (c_A_addStep_129 w (d + 0) c  S11 (2 : Int32) (gI S 128 7) (gI S7 128 7) h17) rfl (Nat.le_of_ble_eq_true rfl) ⟨Nat.le_refl _, Nat.le_refl _⟩ (show J w (d + 2) m_R_readComparison (n0, z0, some (.int z.1), mk c z.2) 100 [some (.ref 128), some (.int (gI S 128 7)), some (.int (gI S3 128 7)), some (.int (gI S7 128 7))] [] (mk c S16) from ?_)
            refine J.run b_R_readComparison_100_1 k_R_readComparison_100_1 rfl (show J w (d + 2) m_R_readComparison (n0, z0, some (.int z.1), mk c z.2) 101 [some (.ref 128), some (.int (gI S 128 7)), some (.int (gI S3 128 7)), some (.int (gI S7 128 7))] [.int (1 : Int32)] (mk c S16) from ?_)
            obtain rfl := some_e H
            exact J.nret d_R_readComparison_101 rfl rfl rfl
          · have H := ite_t H q14
            refine J.run b_R_readComparison_90_1 k_R_readComparison_90_1 rfl (show J w (d + 2) m_R_readComparison (n0, z0, some (.int z.1), mk c z.2) 91 [some (.ref 128), some (.int (gI S 128 7)), some (.int (gI S3 128 7)), some (.int (gI S7 128 7))] [.int (1 : Int32), .ref 129] (mk c S11) from ?_)
            refine J.goto (tgt := 95) d_R_readComparison_91 rfl ?_
            refine J.run b_R_readComparison_95_2 k_R_readComparison_95_2 rfl (show J w (d + 2) m_R_readComparison (n0, z0, some (.int z.1), mk c z.2) 97 [some (.ref 128), some (.int (gI S 128 7)), some (.int (gI S3 128 7)), some (.int (gI S7 128 7))] [.int (gI S7 128 7), .int (gI S 128 7), .int (1 : Int32), .ref 129] (mk c S11) from ?_)
            obtain ⟨r18, S19, h20, H⟩ := bd_e H
            refine J.callV (y := m_A_addStep) (av := [.int (1 : Int32), .int (gI S 128 7), .int (gI S7 128 7)]) (rest := []) (q := 129) l_R_138 d_R_readComparison_97 (isC_st rfl rfl) (c_A_addStep_129 w (d + 0) c  S11 (1 : Int32) (gI S 128 7) (gI S7 128 7) h20) rfl (Nat.le_of_ble_eq_true rfl) ⟨Nat.le_refl _, Nat.le_refl _⟩ (show J w (d + 2) m_R_readComparison (n0, z0, some (.int z.1), mk c z.2) 100 [some (.ref 128), some (.int (gI S 128 7)), some (.int (gI S3 128 7)), some (.int (gI S7 128 7))] [] (mk c S19) from ?_)
            refine J.run b_R_readComparison_100_1 k_R_readComparison_100_1 rfl (show J w (d + 2) m_R_readComparison (n0, z0, some (.int z.1), mk c z.2) 101 [some (.ref 128), some (.int (gI S 128 7)), some (.int (gI S3 128 7)), some (.int (gI S7 128 7))] [.int (1 : Int32)] (mk c S19) from ?_)
            obtain rfl := some_e H
            exact J.nret d_R_readComparison_101 rfl rfl rfl
        · have H := ite_t H q13
          refine J.run b_R_readComparison_79_1 k_R_readComparison_79_1 rfl (show J w (d + 2) m_R_readComparison (n0, z0, some (.int z.1), mk c z.2) 80 [some (.ref 128), some (.int (gI S 128 7)), some (.int (gI S3 128 7)), some (.int (gI S7 128 7))] [.int (0 : Int32), .ref 129] (mk c S11) from ?_)
          refine J.goto (tgt := 95) d_R_readComparison_80 rfl ?_
          refine J.run b_R_readComparison_95_2 k_R_readComparison_95_2 rfl (show J w (d + 2) m_R_readComparison (n0, z0, some (.int z.1), mk c z.2) 97 [some (.ref 128), some (.int (gI S 128 7)), some (.int (gI S3 128 7)), some (.int (gI S7 128 7))] [.int (gI S7 128 7), .int (gI S 128 7), .int (0 : Int32), .ref 129] (mk c S11) from ?_)
          obtain ⟨r21, S22, h23, H⟩ := bd_e H
          refine J.callV (y := m_A_addStep) (av := [.int (0 : Int32), .int (gI S 128 7), .int (gI S7 128 7)]) (rest := []) (q := 129) l_R_138 d_R_readComparison_97 (isC_st rfl rfl) (c_A_addStep_129 w (d + 0) c  S11 (0 : Int32) (gI S 128 7) (gI S7 128 7) h23) rfl (Nat.le_of_ble_eq_true rfl) ⟨Nat.le_refl _, Nat.le_refl _⟩ (show J w (d + 2) m_R_readComparison (n0, z0, some (.int z.1), mk c z.2) 100 [some (.ref 128), some (.int (gI S 128 7)), some (.int (gI S3 128 7)), some (.int (gI S7 128 7))] [] (mk c S22) from ?_)
          refine J.run b_R_readComparison_100_1 k_R_readComparison_100_1 rfl (show J w (d + 2) m_R_readComparison (n0, z0, some (.int z.1), mk c z.2) 101 [some (.ref 128), some (.int (gI S 128 7)), some (.int (gI S3 128 7)), some (.int (gI S7 128 7))] [.int (1 : Int32)] (mk c S22) from ?_)
          obtain rfl := some_e H
          exact J.nret d_R_readComparison_101 rfl rfl rfl
      · have H := ite_f H q9
        refine J.run b_R_readComparison_62_1 k_R_readComparison_62_1 rfl (show J w (d + 2) m_R_readComparison (n0, z0, some (.int z.1), mk c z.2) 63 [some (.ref 128), some (.int (gI S 128 7)), some (.int (gI S3 128 7)), some (.int (gI S7 128 7))] [.int (0 : Int32)] (mk c S7) from ?_)
        obtain rfl := some_e H
        exact J.nret d_R_readComparison_63 rfl rfl rfl
    · have H := ite_f H q5
      refine J.run b_R_readComparison_30_2 k_R_readComparison_30_2 rfl (show J w (d + 2) m_R_readComparison (n0, z0, some (.int z.1), mk c z.2) 34 [some (.ref 128), some (.int (gI S 128 7)), some (.int (gI S3 128 7)), none] [.int (20161 : Int32), .int (gI S3 128 7)] (mk c S3) from ?_)
      refine J.ceq (tgt := 46) d_R_readComparison_34 rfl (fun q24 => ?_) (fun q24 => ?_)
      · have H := ite_t H q24
        refine J.run b_R_readComparison_46_1 k_R_readComparison_46_1 rfl (show J w (d + 2) m_R_readComparison (n0, z0, some (.int z.1), mk c z.2) 47 [some (.ref 128), some (.int (gI S 128 7)), some (.int (gI S3 128 7)), none] [.ref 128] (mk c S3) from ?_)
        obtain ⟨r25, S26, h27, H⟩ := bd_e H
        refine J.callV (y := m_R_advance) (av := []) (rest := []) (q := 128) l_R_42 d_R_readComparison_47 (isC_st rfl rfl) (c_R_advance w (d + 0) c  S3 h27) rfl (Nat.le_of_ble_eq_true rfl) ⟨Nat.le_refl _, Nat.le_refl _⟩ (show J w (d + 2) m_R_readComparison (n0, z0, some (.int z.1), mk c z.2) 50 [some (.ref 128), some (.int (gI S 128 7)), some (.int (gI S3 128 7)), none] [] (mk c S26) from ?_)
        refine J.run b_R_readComparison_50_5 k_R_readComparison_50_5 rfl (And.intro (okO_st (S := S26) rfl) (show J w (d + 2) m_R_readComparison (n0, z0, some (.int z.1), mk c z.2) 59 [some (.ref 128), some (.int (gI S 128 7)), some (.int (gI S3 128 7)), some (.int (gI S26 128 7))] [.int (20000 : Int32), .int (gI S26 128 7)] (mk c S26) from ?_))
        refine J.clt (tgt := 64) d_R_readComparison_59 rfl (fun q28 => ?_) (fun q28 => ?_)
        · have H := ite_t H q28
          refine J.run b_R_readComparison_64_1 k_R_readComparison_64_1 rfl (show J w (d + 2) m_R_readComparison (n0, z0, some (.int z.1), mk c z.2) 65 [some (.ref 128), some (.int (gI S 128 7)), some (.int (gI S3 128 7)), some (.int (gI S26 128 7))] [.ref 128] (mk c S26) from ?_)
          obtain ⟨r29, S30, h31, H⟩ := bd_e H
          refine J.callV (y := m_R_advance) (av := []) (rest := []) (q := 128) l_R_42 d_R_readComparison_65 (isC_st rfl rfl) (c_R_advance w (d + 0) c  S26 h31) rfl (Nat.le_of_ble_eq_true rfl) ⟨Nat.le_refl _, Nat.le_refl _⟩ (show J w (d + 2) m_R_readComparison (n0, z0, some (.int z.1), mk c z.2) 68 [some (.ref 128), some (.int (gI S 128 7)), some (.int (gI S3 128 7)), some (.int (gI S26 128 7))] [] (mk c S30) from ?_)
          refine J.run b_R_readComparison_68_4 k_R_readComparison_68_4 rfl (And.intro (okO_st (S := S30) rfl) (show J w (d + 2) m_R_readComparison (n0, z0, some (.int z.1), mk c z.2) 76 [some (.ref 128), some (.int (gI S 128 7)), some (.int (gI S3 128 7)), some (.int (gI S26 128 7))] [.int (20160 : Int32), .int (gI S3 128 7), .ref 129] (mk c S30) from ?_))
          refine J.cne (tgt := 83) d_R_readComparison_76 rfl (fun q32 => ?_) (fun q32 => ?_)
          · have H := ite_f H q32
            refine J.run b_R_readComparison_83_2 k_R_readComparison_83_2 rfl (show J w (d + 2) m_R_readComparison (n0, z0, some (.int z.1), mk c z.2) 87 [some (.ref 128), some (.int (gI S 128 7)), some (.int (gI S3 128 7)), some (.int (gI S26 128 7))] [.int (20161 : Int32), .int (gI S3 128 7), .ref 129] (mk c S30) from ?_)
            refine J.cne (tgt := 94) d_R_readComparison_87 rfl (fun q33 => ?_) (fun q33 => ?_)
            · have H := ite_f H q33
              refine J.run b_R_readComparison_94_3 k_R_readComparison_94_3 rfl (show J w (d + 2) m_R_readComparison (n0, z0, some (.int z.1), mk c z.2) 97 [some (.ref 128), some (.int (gI S 128 7)), some (.int (gI S3 128 7)), some (.int (gI S26 128 7))] [.int (gI S26 128 7), .int (gI S 128 7), .int (2 : Int32), .ref 129] (mk c S30) from ?_)
              obtain ⟨r34, S35, h36, H⟩ := bd_e H
              refine J.callV (y := m_A_addStep) (av := [.int (2 : Int32), .int (gI S 128 7), .int (gI S26 128 7)]) (rest := []) (q := 129) l_R_138 d_R_readComparison_97 (isC_st rfl rfl) (c_A_addStep_129 w (d + 0) c  S30 (2 : Int32) (gI S 128 7) (gI S26 128 7) h36) rfl (Nat.le_of_ble_eq_true rfl) ⟨Nat.le_refl _, Nat.le_refl _⟩ (show J w (d + 2) m_R_readComparison (n0, z0, some (.int z.1), mk c z.2) 100 [some (.ref 128), some (.int (gI S 128 7)), some (.int (gI S3 128 7)), some (.int (gI S26 128 7))] [] (mk c S35) from ?_)
              refine J.run b_R_readComparison_100_1 k_R_readComparison_100_1 rfl (show J w (d + 2) m_R_readComparison (n0, z0, some (.int z.1), mk c z.2) 101 [some (.ref 128), some (.int (gI S 128 7)), some (.int (gI S3 128 7)), some (.int (gI S26 128 7))] [.int (1 : Int32)] (mk c S35) from ?_)
              obtain rfl := some_e H
              exact J.nret d_R_readComparison_101 rfl rfl rfl
            · have H := ite_t H q33
              refine J.run b_R_readComparison_90_1 k_R_readComparison_90_1 rfl (show J w (d + 2) m_R_readComparison (n0, z0, some (.int z.1), mk c z.2) 91 [some (.ref 128), some (.int (gI S 128 7)), some (.int (gI S3 128 7)), some (.int (gI S26 128 7))] [.int (1 : Int32), .ref 129] (mk c S30) from ?_)
              refine J.goto (tgt := 95) d_R_readComparison_91 rfl ?_
              refine J.run b_R_readComparison_95_2 k_R_readComparison_95_2 rfl (show J w (d + 2) m_R_readComparison (n0, z0, some (.int z.1), mk c z.2) 97 [some (.ref 128), some (.int (gI S 128 7)), some (.int (gI S3 128 7)), some (.int (gI S26 128 7))] [.int (gI S26 128 7), .int (gI S 128 7), .int (1 : Int32), .ref 129] (mk c S30) from ?_)
              obtain ⟨r37, S38, h39, H⟩ := bd_e H
              refine J.callV (y := m_A_addStep) (av := [.int (1 : Int32), .int (gI S 128 7), .int (gI S26 128 7)]) (rest := []) (q := 129) l_R_138 d_R_readComparison_97 (isC_st rfl rfl) (c_A_addStep_129 w (d + 0) c  S30 (1 : Int32) (gI S 128 7) (gI S26 128 7) h39) rfl (Nat.le_of_ble_eq_true rfl) ⟨Nat.le_refl _, Nat.le_refl _⟩ (show J w (d + 2) m_R_readComparison (n0, z0, some (.int z.1), mk c z.2) 100 [some (.ref 128), some (.int (gI S 128 7)), some (.int (gI S3 128 7)), some (.int (gI S26 128 7))] [] (mk c S38) from ?_)
              refine J.run b_R_readComparison_100_1 k_R_readComparison_100_1 rfl (show J w (d + 2) m_R_readComparison (n0, z0, some (.int z.1), mk c z.2) 101 [some (.ref 128), some (.int (gI S 128 7)), some (.int (gI S3 128 7)), some (.int (gI S26 128 7))] [.int (1 : Int32)] (mk c S38) from ?_)
              obtain rfl := some_e H
              exact J.nret d_R_readComparison_101 rfl rfl rfl
          · have H := ite_t H q32
            refine J.run b_R_readComparison_79_1 k_R_readComparison_79_1 rfl (show J w (d + 2) m_R_readComparison (n0, z0, some (.int z.1), mk c z.2) 80 [some (.ref 128), some (.int (gI S 128 7)), some (.int (gI S3 128 7)), some (.int (gI S26 128 7))] [.int (0 : Int32), .ref 129] (mk c S30) from ?_)
            refine J.goto (tgt := 95) d_R_readComparison_80 rfl ?_
            refine J.run b_R_readComparison_95_2 k_R_readComparison_95_2 rfl (show J w (d + 2) m_R_readComparison (n0, z0, some (.int z.1), mk c z.2) 97 [some (.ref 128), some (.int (gI S 128 7)), some (.int (gI S3 128 7)), some (.int (gI S26 128 7))] [.int (gI S26 128 7), .int (gI S 128 7), .int (0 : Int32), .ref 129] (mk c S30) from ?_)
            obtain ⟨r40, S41, h42, H⟩ := bd_e H
            refine J.callV (y := m_A_addStep) (av := [.int (0 : Int32), .int (gI S 128 7), .int (gI S26 128 7)]) (rest := []) (q := 129) l_R_138 d_R_readComparison_97 (isC_st rfl rfl) (c_A_addStep_129 w (d + 0) c  S30 (0 : Int32) (gI S 128 7) (gI S26 128 7) h42) rfl (Nat.le_of_ble_eq_true rfl) ⟨Nat.le_refl _, Nat.le_refl _⟩ (show J w (d + 2) m_R_readComparison (n0, z0, some (.int z.1), mk c z.2) 100 [some (.ref 128), some (.int (gI S 128 7)), some (.int (gI S3 128 7)), some (.int (gI S26 128 7))] [] (mk c S41) from ?_)
            refine J.run b_R_readComparison_100_1 k_R_readComparison_100_1 rfl (show J w (d + 2) m_R_readComparison (n0, z0, some (.int z.1), mk c z.2) 101 [some (.ref 128), some (.int (gI S 128 7)), some (.int (gI S3 128 7)), some (.int (gI S26 128 7))] [.int (1 : Int32)] (mk c S41) from ?_)
            obtain rfl := some_e H
            exact J.nret d_R_readComparison_101 rfl rfl rfl
        · have H := ite_f H q28
          refine J.run b_R_readComparison_62_1 k_R_readComparison_62_1 rfl (show J w (d + 2) m_R_readComparison (n0, z0, some (.int z.1), mk c z.2) 63 [some (.ref 128), some (.int (gI S 128 7)), some (.int (gI S3 128 7)), some (.int (gI S26 128 7))] [.int (0 : Int32)] (mk c S26) from ?_)
          obtain rfl := some_e H
          exact J.nret d_R_readComparison_63 rfl rfl rfl
      · have H := ite_f H q24
        refine J.run b_R_readComparison_37_2 k_R_readComparison_37_2 rfl (show J w (d + 2) m_R_readComparison (n0, z0, some (.int z.1), mk c z.2) 41 [some (.ref 128), some (.int (gI S 128 7)), some (.int (gI S3 128 7)), none] [.int (20162 : Int32), .int (gI S3 128 7)] (mk c S3) from ?_)
        refine J.ceq (tgt := 46) d_R_readComparison_41 rfl (fun q43 => ?_) (fun q43 => ?_)
        · have H := ite_t H q43
          refine J.run b_R_readComparison_46_1 k_R_readComparison_46_1 rfl (show J w (d + 2) m_R_readComparison (n0, z0, some (.int z.1), mk c z.2) 47 [some (.ref 128), some (.int (gI S 128 7)), some (.int (gI S3 128 7)), none] [.ref 128] (mk c S3) from ?_)
          obtain ⟨r44, S45, h46, H⟩ := bd_e H
          refine J.callV (y := m_R_advance) (av := []) (rest := []) (q := 128) l_R_42 d_R_readComparison_47 (isC_st rfl rfl) (c_R_advance w (d + 0) c  S3 h46) rfl (Nat.le_of_ble_eq_true rfl) ⟨Nat.le_refl _, Nat.le_refl _⟩ (show J w (d + 2) m_R_readComparison (n0, z0, some (.int z.1), mk c z.2) 50 [some (.ref 128), some (.int (gI S 128 7)), some (.int (gI S3 128 7)), none] [] (mk c S45) from ?_)
          refine J.run b_R_readComparison_50_5 k_R_readComparison_50_5 rfl (And.intro (okO_st (S := S45) rfl) (show J w (d + 2) m_R_readComparison (n0, z0, some (.int z.1), mk c z.2) 59 [some (.ref 128), some (.int (gI S 128 7)), some (.int (gI S3 128 7)), some (.int (gI S45 128 7))] [.int (20000 : Int32), .int (gI S45 128 7)] (mk c S45) from ?_))
          refine J.clt (tgt := 64) d_R_readComparison_59 rfl (fun q47 => ?_) (fun q47 => ?_)
          · have H := ite_t H q47
            refine J.run b_R_readComparison_64_1 k_R_readComparison_64_1 rfl (show J w (d + 2) m_R_readComparison (n0, z0, some (.int z.1), mk c z.2) 65 [some (.ref 128), some (.int (gI S 128 7)), some (.int (gI S3 128 7)), some (.int (gI S45 128 7))] [.ref 128] (mk c S45) from ?_)
            obtain ⟨r48, S49, h50, H⟩ := bd_e H
            refine J.callV (y := m_R_advance) (av := []) (rest := []) (q := 128) l_R_42 d_R_readComparison_65 (isC_st rfl rfl) (c_R_advance w (d + 0) c  S45 h50) rfl (Nat.le_of_ble_eq_true rfl) ⟨Nat.le_refl _, Nat.le_refl _⟩ (show J w (d + 2) m_R_readComparison (n0, z0, some (.int z.1), mk c z.2) 68 [some (.ref 128), some (.int (gI S 128 7)), some (.int (gI S3 128 7)), some (.int (gI S45 128 7))] [] (mk c S49) from ?_)
            refine J.run b_R_readComparison_68_4 k_R_readComparison_68_4 rfl (And.intro (okO_st (S := S49) rfl) (show J w (d + 2) m_R_readComparison (n0, z0, some (.int z.1), mk c z.2) 76 [some (.ref 128), some (.int (gI S 128 7)), some (.int (gI S3 128 7)), some (.int (gI S45 128 7))] [.int (20160 : Int32), .int (gI S3 128 7), .ref 129] (mk c S49) from ?_))
            refine J.cne (tgt := 83) d_R_readComparison_76 rfl (fun q51 => ?_) (fun q51 => ?_)
            · have H := ite_f H q51
              refine J.run b_R_readComparison_83_2 k_R_readComparison_83_2 rfl (show J w (d + 2) m_R_readComparison (n0, z0, some (.int z.1), mk c z.2) 87 [some (.ref 128), some (.int (gI S 128 7)), some (.int (gI S3 128 7)), some (.int (gI S45 128 7))] [.int (20161 : Int32), .int (gI S3 128 7), .ref 129] (mk c S49) from ?_)
              refine J.cne (tgt := 94) d_R_readComparison_87 rfl (fun q52 => ?_) (fun q52 => ?_)
              · have H := ite_f H q52
                refine J.run b_R_readComparison_94_3 k_R_readComparison_94_3 rfl (show J w (d + 2) m_R_readComparison (n0, z0, some (.int z.1), mk c z.2) 97 [some (.ref 128), some (.int (gI S 128 7)), some (.int (gI S3 128 7)), some (.int (gI S45 128 7))] [.int (gI S45 128 7), .int (gI S 128 7), .int (2 : Int32), .ref 129] (mk c S49) from ?_)
                obtain ⟨r53, S54, h55, H⟩ := bd_e H
                refine J.callV (y := m_A_addStep) (av := [.int (2 : Int32), .int (gI S 128 7), .int (gI S45 128 7)]) (rest := []) (q := 129) l_R_138 d_R_readComparison_97 (isC_st rfl rfl) (c_A_addStep_129 w (d + 0) c  S49 (2 : Int32) (gI S 128 7) (gI S45 128 7) h55) rfl (Nat.le_of_ble_eq_true rfl) ⟨Nat.le_refl _, Nat.le_refl _⟩ (show J w (d + 2) m_R_readComparison (n0, z0, some (.int z.1), mk c z.2) 100 [some (.ref 128), some (.int (gI S 128 7)), some (.int (gI S3 128 7)), some (.int (gI S45 128 7))] [] (mk c S54) from ?_)
                refine J.run b_R_readComparison_100_1 k_R_readComparison_100_1 rfl (show J w (d + 2) m_R_readComparison (n0, z0, some (.int z.1), mk c z.2) 101 [some (.ref 128), some (.int (gI S 128 7)), some (.int (gI S3 128 7)), some (.int (gI S45 128 7))] [.int (1 : Int32)] (mk c S54) from ?_)
                obtain rfl := some_e H
                exact J.nret d_R_readComparison_101 rfl rfl rfl
              · have H := ite_t H q52
                refine J.run b_R_readComparison_90_1 k_R_readComparison_90_1 rfl (show J w (d + 2) m_R_readComparison (n0, z0, some (.int z.1), mk c z.2) 91 [some (.ref 128), some (.int (gI S 128 7)), some (.int (gI S3 128 7)), some (.int (gI S45 128 7))] [.int (1 : Int32), .ref 129] (mk c S49) from ?_)
                refine J.goto (tgt := 95) d_R_readComparison_91 rfl ?_
                refine J.run b_R_readComparison_95_2 k_R_readComparison_95_2 rfl (show J w (d + 2) m_R_readComparison (n0, z0, some (.int z.1), mk c z.2) 97 [some (.ref 128), some (.int (gI S 128 7)), some (.int (gI S3 128 7)), some (.int (gI S45 128 7))] [.int (gI S45 128 7), .int (gI S 128 7), .int (1 : Int32), .ref 129] (mk c S49) from ?_)
                obtain ⟨r56, S57, h58, H⟩ := bd_e H
                refine J.callV (y := m_A_addStep) (av := [.int (1 : Int32), .int (gI S 128 7), .int (gI S45 128 7)]) (rest := []) (q := 129) l_R_138 d_R_readComparison_97 (isC_st rfl rfl) (c_A_addStep_129 w (d + 0) c  S49 (1 : Int32) (gI S 128 7) (gI S45 128 7) h58) rfl (Nat.le_of_ble_eq_true rfl) ⟨Nat.le_refl _, Nat.le_refl _⟩ (show J w (d + 2) m_R_readComparison (n0, z0, some (.int z.1), mk c z.2) 100 [some (.ref 128), some (.int (gI S 128 7)), some (.int (gI S3 128 7)), some (.int (gI S45 128 7))] [] (mk c S57) from ?_)
                refine J.run b_R_readComparison_100_1 k_R_readComparison_100_1 rfl (show J w (d + 2) m_R_readComparison (n0, z0, some (.int z.1), mk c z.2) 101 [some (.ref 128), some (.int (gI S 128 7)), some (.int (gI S3 128 7)), some (.int (gI S45 128 7))] [.int (1 : Int32)] (mk c S57) from ?_)
                obtain rfl := some_e H
                exact J.nret d_R_readComparison_101 rfl rfl rfl
            · have H := ite_t H q51
              refine J.run b_R_readComparison_79_1 k_R_readComparison_79_1 rfl (show J w (d + 2) m_R_readComparison (n0, z0, some (.int z.1), mk c z.2) 80 [some (.ref 128), some (.int (gI S 128 7)), some (.int (gI S3 128 7)), some (.int (gI S45 128 7))] [.int (0 : Int32), .ref 129] (mk c S49) from ?_)
              refine J.goto (tgt := 95) d_R_readComparison_80 rfl ?_
              refine J.run b_R_readComparison_95_2 k_R_readComparison_95_2 rfl (show J w (d + 2) m_R_readComparison (n0, z0, some (.int z.1), mk c z.2) 97 [some (.ref 128), some (.int (gI S 128 7)), some (.int (gI S3 128 7)), some (.int (gI S45 128 7))] [.int (gI S45 128 7), .int (gI S 128 7), .int (0 : Int32), .ref 129] (mk c S49) from ?_)
              obtain ⟨r59, S60, h61, H⟩ := bd_e H
              refine J.callV (y := m_A_addStep) (av := [.int (0 : Int32), .int (gI S 128 7), .int (gI S45 128 7)]) (rest := []) (q := 129) l_R_138 d_R_readComparison_97 (isC_st rfl rfl) (c_A_addStep_129 w (d + 0) c  S49 (0 : Int32) (gI S 128 7) (gI S45 128 7) h61) rfl (Nat.le_of_ble_eq_true rfl) ⟨Nat.le_refl _, Nat.le_refl _⟩ (show J w (d + 2) m_R_readComparison (n0, z0, some (.int z.1), mk c z.2) 100 [some (.ref 128), some (.int (gI S 128 7)), some (.int (gI S3 128 7)), some (.int (gI S45 128 7))] [] (mk c S60) from ?_)
              refine J.run b_R_readComparison_100_1 k_R_readComparison_100_1 rfl (show J w (d + 2) m_R_readComparison (n0, z0, some (.int z.1), mk c z.2) 101 [some (.ref 128), some (.int (gI S 128 7)), some (.int (gI S3 128 7)), some (.int (gI S45 128 7))] [.int (1 : Int32)] (mk c S60) from ?_)
              obtain rfl := some_e H
              exact J.nret d_R_readComparison_101 rfl rfl rfl
          · have H := ite_f H q47
            refine J.run b_R_readComparison_62_1 k_R_readComparison_62_1 rfl (show J w (d + 2) m_R_readComparison (n0, z0, some (.int z.1), mk c z.2) 63 [some (.ref 128), some (.int (gI S 128 7)), some (.int (gI S3 128 7)), some (.int (gI S45 128 7))] [.int (0 : Int32)] (mk c S45) from ?_)
            obtain rfl := some_e H
            exact J.nret d_R_readComparison_63 rfl rfl rfl
        · have H := ite_f H q43
          refine J.run b_R_readComparison_44_1 k_R_readComparison_44_1 rfl (show J w (d + 2) m_R_readComparison (n0, z0, some (.int z.1), mk c z.2) 45 [some (.ref 128), some (.int (gI S 128 7)), some (.int (gI S3 128 7)), none] [.int (0 : Int32)] (mk c S3) from ?_)
          obtain rfl := some_e H
          exact J.nret d_R_readComparison_45 rfl rfl rfl
  · have H := ite_f H q1
    refine J.run b_R_readComparison_12_1 k_R_readComparison_12_1 rfl (show J w (d + 2) m_R_readComparison (n0, z0, some (.int z.1), mk c z.2) 13 [some (.ref 128), some (.int (gI S 128 7)), none, none] [.int (0 : Int32)] (mk c S) from ?_)
    obtain rfl := some_e H
    exact J.nret d_R_readComparison_13 rfl rfl rfl
def b_R_readInner_0_2 : List Ins := [(.iload_n 1, 0, 0, 0), (.iconst (3), 0, 0, 0)]
theorem k_R_readInner_0_2 : bok m_R_readInner 0 b_R_readInner_0_2 = true := by decide +kernel
def b_R_readInner_7_1 : List Ins := [(.aload_n 0, 0, 0, 0)]
theorem k_R_readInner_7_1 : bok m_R_readInner 7 b_R_readInner_7_1 = true := by decide +kernel
def b_R_readInner_11_4 : List Ins := [(.aload_n 0, 0, 0, 0), (.iload_n 1, 0, 0, 0), (.iconst (1), 0, 0, 0), (.iadd, 0, 0, 0)]
theorem k_R_readInner_11_4 : bok m_R_readInner 11 b_R_readInner_11_4 = true := by decide +kernel
def b_R_readInner_31_1 : List Ins := [(.iconst (0), 0, 0, 0)]
theorem k_R_readInner_31_1 : bok m_R_readInner 31 b_R_readInner_31_1 = true := by decide +kernel
def b_R_readInner_21_3 : List Ins := [(.aload_n 0, 0, 0, 0), (.getfield 45, 3, 7, 0), (.sipush (20141), 0, 0, 0)]
theorem k_R_readInner_21_3 : bok m_R_readInner 21 b_R_readInner_21_3 = true := by decide +kernel
def b_R_readInner_33_1 : List Ins := [(.aload_n 0, 0, 0, 0)]
theorem k_R_readInner_33_1 : bok m_R_readInner 33 b_R_readInner_33_1 = true := by decide +kernel
def b_R_readInner_37_1 : List Ins := [(.iconst (1), 0, 0, 0)]
theorem k_R_readInner_37_1 : bok m_R_readInner 37 b_R_readInner_37_1 = true := by decide +kernel
def b_R_readInner_5_1 : List Ins := [(.iconst (0), 0, 0, 0)]
theorem k_R_readInner_5_1 : bok m_R_readInner 5 b_R_readInner_5_1 = true := by decide +kernel
theorem d_R_readInner_2 : decode m_R_readInner.2.1 2 = .ok (.if_icmp .lt (5), 3) := by decide +kernel
theorem d_R_readInner_8 : decode m_R_readInner.2.1 8 = .ok (.invokevirtual 42, 3) := by decide +kernel
theorem d_R_readInner_15 : decode m_R_readInner.2.1 15 = .ok (.invokevirtual 128, 3) := by decide +kernel
theorem d_R_readInner_18 : decode m_R_readInner.2.1 18 = .ok (.ifCond .eq (13), 3) := by decide +kernel
theorem d_R_readInner_32 : decode m_R_readInner.2.1 32 = .ok (.ireturn, 1) := by decide +kernel
theorem d_R_readInner_28 : decode m_R_readInner.2.1 28 = .ok (.if_icmp .eq (5), 3) := by decide +kernel
theorem d_R_readInner_34 : decode m_R_readInner.2.1 34 = .ok (.invokevirtual 42, 3) := by decide +kernel
theorem d_R_readInner_38 : decode m_R_readInner.2.1 38 = .ok (.ireturn, 1) := by decide +kernel
theorem d_R_readInner_6 : decode m_R_readInner.2.1 6 = .ok (.ireturn, 1) := by decide +kernel
def f_R_readInner (rc : hs → Int32 → Option (Int32 × hs)) (S : hs) (x1 : Int32) : Option (Int32 × hs) := (if x1 < (3 : Int32) then bd (f_R_advance  S) fun r2 S3 => bd (rc S3 (x1 + (1 : Int32))) fun r5 S6 => (if r5 = 0 then some ((0 : Int32), S6) else (if (gI S6 128 7) = (20141 : Int32) then bd (f_R_advance  S6) fun r10 S11 => some ((1 : Int32), S11) else some ((0 : Int32), S6))) else some ((0 : Int32), S))
theorem c_R_readInner (w : Wd) (d : Nat) (c : cx) {rc : hs → Int32 → Option (Int32 × hs)} (rc_ok : ∀ (D : Nat), d ≤ D → ∀ (S : hs) (x1 : Int32) (z : Int32 × hs), rc S x1 = some z → Cl w D m_R_readCond [.ref 128, .int x1] (mk c S) (some (.int z.1)) (mk c z.2)) (S : hs) (x1 : Int32)  {z : Int32 × hs} (H : f_R_readInner rc S x1 = some z) : Cl w (d + 2) m_R_readInner [.ref 128, .int x1] (mk c S) (some (.int z.1)) (mk c z.2) := by
  refine Cl.of (Nat.le_refl _) (Nat.le_refl _) (by decide +kernel) (Nat.le_of_ble_eq_true rfl) ?_
  unfold f_R_readInner at H
  generalize hN (mk c S) = n0
  generalize hZ (mk c S) = z0
  show J w (d + 2) m_R_readInner (n0, z0, some (.int z.1), mk c z.2) 0 [some (.ref 128), some (.int x1)] [] (mk c S)
  refine J.run b_R_readInner_0_2 k_R_readInner_0_2 rfl (show J w (d + 2) m_R_readInner (n0, z0, some (.int z.1), mk c z.2) 2 [some (.ref 128), some (.int x1)] [.int (3 : Int32), .int x1] (mk c S) from ?_)
  refine J.clt (tgt := 7) d_R_readInner_2 rfl (fun q1 => ?_) (fun q1 => ?_)
  · have H := ite_t H q1
    refine J.run b_R_readInner_7_1 k_R_readInner_7_1 rfl (show J w (d + 2) m_R_readInner (n0, z0, some (.int z.1), mk c z.2) 8 [some (.ref 128), some (.int x1)] [.ref 128] (mk c S) from ?_)
    obtain ⟨r2, S3, h4, H⟩ := bd_e H
    refine J.callV (y := m_R_advance) (av := []) (rest := []) (q := 128) l_R_42 d_R_readInner_8 (isC_st rfl rfl) (c_R_advance w (d + 0) c  S h4) rfl (Nat.le_of_ble_eq_true rfl) ⟨Nat.le_refl _, Nat.le_refl _⟩ (show J w (d + 2) m_R_readInner (n0, z0, some (.int z.1), mk c z.2) 11 [some (.ref 128), some (.int x1)] [] (mk c S3) from ?_)
    refine J.run b_R_readInner_11_4 k_R_readInner_11_4 rfl (show J w (d + 2) m_R_readInner (n0, z0, some (.int z.1), mk c z.2) 15 [some (.ref 128), some (.int x1)] [.int (x1 + (1 : Int32)), .ref 128] (mk c S3) from ?_)
    obtain ⟨r5, S6, h7, H⟩ := bd_e H
    refine J.callV (y := m_R_readCond) (av := [.int (x1 + (1 : Int32))]) (rest := []) (q := 128) l_R_128 d_R_readInner_15 (isC_st rfl rfl) (rc_ok (d + 1) (Nat.le_add_right _ _) S3 (x1 + (1 : Int32)) _ h7) rfl (Nat.le_of_ble_eq_true rfl) ⟨Nat.le_refl _, Nat.le_refl _⟩ (show J w (d + 2) m_R_readInner (n0, z0, some (.int z.1), mk c z.2) 18 [some (.ref 128), some (.int x1)] [.int r5] (mk c S6) from ?_)
    refine J.zeq (tgt := 31) d_R_readInner_18 rfl (fun q8 => ?_) (fun q8 => ?_)
    · have H := ite_t H q8
      refine J.run b_R_readInner_31_1 k_R_readInner_31_1 rfl (show J w (d + 2) m_R_readInner (n0, z0, some (.int z.1), mk c z.2) 32 [some (.ref 128), some (.int x1)] [.int (0 : Int32)] (mk c S6) from ?_)
      obtain rfl := some_e H
      exact J.nret d_R_readInner_32 rfl rfl rfl
    · have H := ite_f H q8
      refine J.run b_R_readInner_21_3 k_R_readInner_21_3 rfl (And.intro (okO_st (S := S6) rfl) (show J w (d + 2) m_R_readInner (n0, z0, some (.int z.1), mk c z.2) 28 [some (.ref 128), some (.int x1)] [.int (20141 : Int32), .int (gI S6 128 7)] (mk c S6) from ?_))
      refine J.ceq (tgt := 33) d_R_readInner_28 rfl (fun q9 => ?_) (fun q9 => ?_)
      · have H := ite_t H q9
        refine J.run b_R_readInner_33_1 k_R_readInner_33_1 rfl (show J w (d + 2) m_R_readInner (n0, z0, some (.int z.1), mk c z.2) 34 [some (.ref 128), some (.int x1)] [.ref 128] (mk c S6) from ?_)
        obtain ⟨r10, S11, h12, H⟩ := bd_e H
        refine J.callV (y := m_R_advance) (av := []) (rest := []) (q := 128) l_R_42 d_R_readInner_34 (isC_st rfl rfl) (c_R_advance w (d + 0) c  S6 h12) rfl (Nat.le_of_ble_eq_true rfl) ⟨Nat.le_refl _, Nat.le_refl _⟩ (show J w (d + 2) m_R_readInner (n0, z0, some (.int z.1), mk c z.2) 37 [some (.ref 128), some (.int x1)] [] (mk c S11) from ?_)
        refine J.run b_R_readInner_37_1 k_R_readInner_37_1 rfl (show J w (d + 2) m_R_readInner (n0, z0, some (.int z.1), mk c z.2) 38 [some (.ref 128), some (.int x1)] [.int (1 : Int32)] (mk c S11) from ?_)
        obtain rfl := some_e H
        exact J.nret d_R_readInner_38 rfl rfl rfl
      · have H := ite_f H q9
        refine J.run b_R_readInner_31_1 k_R_readInner_31_1 rfl (show J w (d + 2) m_R_readInner (n0, z0, some (.int z.1), mk c z.2) 32 [some (.ref 128), some (.int x1)] [.int (0 : Int32)] (mk c S6) from ?_)
        obtain rfl := some_e H
        exact J.nret d_R_readInner_32 rfl rfl rfl
  · have H := ite_f H q1
    refine J.run b_R_readInner_5_1 k_R_readInner_5_1 rfl (show J w (d + 2) m_R_readInner (n0, z0, some (.int z.1), mk c z.2) 6 [some (.ref 128), some (.int x1)] [.int (0 : Int32)] (mk c S) from ?_)
    obtain rfl := some_e H
    exact J.nret d_R_readInner_6 rfl rfl rfl
def b_R_readOne_0_4 : List Ins := [(.iconst (0), 0, 0, 0), (.istore_n 2, 0, 0, 0), (.iconst (0), 0, 0, 0), (.istore_n 3, 0, 0, 0)]
theorem k_R_readOne_0_4 : bok m_R_readOne 0 b_R_readOne_0_4 = true := by decide +kernel
def b_R_readOne_4_2 : List Ins := [(.iload_n 3, 0, 0, 0), (.sipush (200), 0, 0, 0)]
theorem k_R_readOne_4_2 : bok m_R_readOne 4 b_R_readOne_4_2 = true := by decide +kernel
def b_R_readOne_11_3 : List Ins := [(.aload_n 0, 0, 0, 0), (.getfield 45, 3, 7, 0), (.sipush (20005), 0, 0, 0)]
theorem k_R_readOne_11_3 : bok m_R_readOne 11 b_R_readOne_11_3 = true := by decide +kernel
def b_R_readOne_21_1 : List Ins := [(.aload_n 0, 0, 0, 0)]
theorem k_R_readOne_21_1 : bok m_R_readOne 21 b_R_readOne_21_1 = true := by decide +kernel
def b_R_readOne_25_1 : List Ins := [(.iload_n 2, 0, 0, 0)]
theorem k_R_readOne_25_1 : bok m_R_readOne 25 b_R_readOne_25_1 = true := by decide +kernel
def b_R_readOne_33_3 : List Ins := [(.iconst (0), 0, 0, 0), (.istore_n 2, 0, 0, 0), (.iinc 3 (1), 0, 0, 0)]
theorem k_R_readOne_33_3 : bok m_R_readOne 33 b_R_readOne_33_3 = true := by decide +kernel
def b_R_readOne_29_1 : List Ins := [(.iconst (1), 0, 0, 0)]
theorem k_R_readOne_29_1 : bok m_R_readOne 29 b_R_readOne_29_1 = true := by decide +kernel
def b_R_readOne_34_2 : List Ins := [(.istore_n 2, 0, 0, 0), (.iinc 3 (1), 0, 0, 0)]
theorem k_R_readOne_34_2 : bok m_R_readOne 34 b_R_readOne_34_2 = true := by decide +kernel
def b_R_readOne_41_3 : List Ins := [(.aload_n 0, 0, 0, 0), (.getfield 45, 3, 7, 0), (.sipush (20140), 0, 0, 0)]
theorem k_R_readOne_41_3 : bok m_R_readOne 41 b_R_readOne_41_3 = true := by decide +kernel
def b_R_readOne_59_1 : List Ins := [(.aload_n 0, 0, 0, 0)]
theorem k_R_readOne_59_1 : bok m_R_readOne 59 b_R_readOne_59_1 = true := by decide +kernel
def b_R_readOne_63_2 : List Ins := [(.istore_n 3, 0, 0, 0), (.iload_n 2, 0, 0, 0)]
theorem k_R_readOne_63_2 : bok m_R_readOne 63 b_R_readOne_63_2 = true := by decide +kernel
def b_R_readOne_78_1 : List Ins := [(.iload_n 3, 0, 0, 0)]
theorem k_R_readOne_78_1 : bok m_R_readOne 78 b_R_readOne_78_1 = true := by decide +kernel
def b_R_readOne_68_5 : List Ins := [(.aload_n 0, 0, 0, 0), (.getfield 14, 3, 0, 2), (.iconst (3), 0, 0, 0), (.iconst (0), 0, 0, 0), (.iconst (0), 0, 0, 0)]
theorem k_R_readOne_68_5 : bok m_R_readOne 68 b_R_readOne_68_5 = true := by decide +kernel
def b_R_readOne_51_2 : List Ins := [(.aload_n 0, 0, 0, 0), (.iload_n 1, 0, 0, 0)]
theorem k_R_readOne_51_2 : bok m_R_readOne 51 b_R_readOne_51_2 = true := by decide +kernel
theorem d_R_readOne_8 : decode m_R_readOne.2.1 8 = .ok (.if_icmp .ge (33), 3) := by decide +kernel
theorem d_R_readOne_18 : decode m_R_readOne.2.1 18 = .ok (.if_icmp .ne (23), 3) := by decide +kernel
theorem d_R_readOne_22 : decode m_R_readOne.2.1 22 = .ok (.invokevirtual 42, 3) := by decide +kernel
theorem d_R_readOne_26 : decode m_R_readOne.2.1 26 = .ok (.ifCond .ne (7), 3) := by decide +kernel
theorem d_R_readOne_38 : decode m_R_readOne.2.1 38 = .ok (.goto (-34), 3) := by decide +kernel
theorem d_R_readOne_30 : decode m_R_readOne.2.1 30 = .ok (.goto (4), 3) := by decide +kernel
theorem d_R_readOne_48 : decode m_R_readOne.2.1 48 = .ok (.if_icmp .ne (11), 3) := by decide +kernel
theorem d_R_readOne_60 : decode m_R_readOne.2.1 60 = .ok (.invokevirtual 148, 3) := by decide +kernel
theorem d_R_readOne_65 : decode m_R_readOne.2.1 65 = .ok (.ifCond .eq (13), 3) := by decide +kernel
theorem d_R_readOne_79 : decode m_R_readOne.2.1 79 = .ok (.ireturn, 1) := by decide +kernel
theorem d_R_readOne_75 : decode m_R_readOne.2.1 75 = .ok (.invokevirtual 138, 3) := by decide +kernel
theorem d_R_readOne_53 : decode m_R_readOne.2.1 53 = .ok (.invokevirtual 145, 3) := by decide +kernel
theorem d_R_readOne_56 : decode m_R_readOne.2.1 56 = .ok (.goto (7), 3) := by decide +kernel
def lp_R_readOne_4 (x1 : Int32) (rc : hs → Int32 → Option (Int32 × hs)) (K0 : hs → Int32 → Int32 → Option (Int32 × hs)) : Nat → hs → Int32 → Int32 → Option (Int32 × hs)
  | 0, _, _, _ => none
  | n + 1, S, x2, x3 => (if (200 : Int32) ≤ x3 then K0 S x2 x3 else (if (gI S 128 7) = (20005 : Int32) then bd (f_R_advance  S) fun r3 S4 => (if x2 = 0 then lp_R_readOne_4 x1 rc K0 n S4 (1 : Int32) (x3 + (1 : Int32)) else lp_R_readOne_4 x1 rc K0 n S4 (0 : Int32) (x3 + (1 : Int32))) else K0 S x2 x3))
def f_R_readOne (rc : hs → Int32 → Option (Int32 × hs)) (S : hs) (x1 : Int32) : Option (Int32 × hs) := lp_R_readOne_4 x1 rc (fun (S7 : hs) (y8 : Int32) (y9 : Int32) => (if (gI S7 128 7) = (20140 : Int32) then bd (f_R_readInner rc S7 x1) fun r20 S21 => (if y8 = 0 then ck (isB r20) (some (r20, S21)) else bd (f_A_addStep_129  S21 (3 : Int32) (0 : Int32) (0 : Int32)) fun r25 S26 => ck (isB r20) (some (r20, S26))) else bd (f_R_readComparison  S7) fun r11 S12 => (if y8 = 0 then ck (isB r11) (some (r11, S12)) else bd (f_A_addStep_129  S12 (3 : Int32) (0 : Int32) (0 : Int32)) fun r16 S17 => ck (isB r11) (some (r11, S17))))) 1000 S (0 : Int32) (0 : Int32)
theorem lo_R_readOne_4 (w : Wd) (d : Nat) (c : cx) {n0 z0 : Nat} {z : Int32 × hs} {rc : hs → Int32 → Option (Int32 × hs)} {K0 : hs → Int32 → Int32 → Option (Int32 × hs)} (x1 : Int32)  (rc_ok : ∀ (D : Nat), d ≤ D → ∀ (S : hs) (x1 : Int32) (z : Int32 × hs), rc S x1 = some z → Cl w D m_R_readCond [.ref 128, .int x1] (mk c S) (some (.int z.1)) (mk c z.2)) (hK0 : ∀ (S : hs) (x2 : Int32) (x3 : Int32), K0 S x2 x3 = some z → J w (d + 3) m_R_readOne (n0, z0, some (.int z.1), mk c z.2) 41 [some (.ref 128), some (.int x1), some (.int x2), none] [] (mk c S)) :
    ∀ (n : Nat) (S : hs) (x2 : Int32) (x3 : Int32), lp_R_readOne_4 x1 rc K0 n S x2 x3 = some z → J w (d + 3) m_R_readOne (n0, z0, some (.int z.1), mk c z.2) 4 [some (.ref 128), some (.int x1), some (.int x2), some (.int x3)] [] (mk c S) := by
  intro n
  induction n with
  | zero => intro S x2 x3 H; cases H
  | succ n ih =>
    intro S x2 x3 H
    rw [lp_R_readOne_4] at H
    refine J.run b_R_readOne_4_2 k_R_readOne_4_2 rfl (show J w (d + 3) m_R_readOne (n0, z0, some (.int z.1), mk c z.2) 8 [some (.ref 128), some (.int x1), some (.int x2), some (.int x3)] [.int (200 : Int32), .int x3] (mk c S) from ?_)
    refine J.cge (tgt := 41) d_R_readOne_8 rfl (fun q1 => ?_) (fun q1 => ?_)
    · have H := ite_t H q1
      refine J.mask [true, true, true, false] ?_
      exact hK0 S x2 x3 H
    · have H := ite_f H q1
      refine J.run b_R_readOne_11_3 k_R_readOne_11_3 rfl (And.intro (okO_st (S := S) rfl) (show J w (d + 3) m_R_readOne (n0, z0, some (.int z.1), mk c z.2) 18 [some (.ref 128), some (.int x1), some (.int x2), some (.int x3)] [.int (20005 : Int32), .int (gI S 128 7)] (mk c S) from ?_))
      refine J.cne (tgt := 41) d_R_readOne_18 rfl (fun q2 => ?_) (fun q2 => ?_)
      · have H := ite_f H q2
        refine J.mask [true, true, true, false] ?_
        exact hK0 S x2 x3 H
      · have H := ite_t H q2
        refine J.run b_R_readOne_21_1 k_R_readOne_21_1 rfl (show J w (d + 3) m_R_readOne (n0, z0, some (.int z.1), mk c z.2) 22 [some (.ref 128), some (.int x1), some (.int x2), some (.int x3)] [.ref 128] (mk c S) from ?_)
        obtain ⟨r3, S4, h5, H⟩ := bd_e H
        refine J.callV (y := m_R_advance) (av := []) (rest := []) (q := 128) l_R_42 d_R_readOne_22 (isC_st rfl rfl) (c_R_advance w (d + 1) c  S h5) rfl (Nat.le_of_ble_eq_true rfl) ⟨Nat.le_refl _, Nat.le_refl _⟩ (show J w (d + 3) m_R_readOne (n0, z0, some (.int z.1), mk c z.2) 25 [some (.ref 128), some (.int x1), some (.int x2), some (.int x3)] [] (mk c S4) from ?_)
        refine J.run b_R_readOne_25_1 k_R_readOne_25_1 rfl (show J w (d + 3) m_R_readOne (n0, z0, some (.int z.1), mk c z.2) 26 [some (.ref 128), some (.int x1), some (.int x2), some (.int x3)] [.int x2] (mk c S4) from ?_)
        refine J.zne (tgt := 33) d_R_readOne_26 rfl (fun q6 => ?_) (fun q6 => ?_)
        · have H := ite_f H q6
          refine J.run b_R_readOne_33_3 k_R_readOne_33_3 rfl (show J w (d + 3) m_R_readOne (n0, z0, some (.int z.1), mk c z.2) 38 [some (.ref 128), some (.int x1), some (.int (0 : Int32)), some (.int (x3 + (1 : Int32)))] [] (mk c S4) from ?_)
          refine J.goto (tgt := 4) d_R_readOne_38 rfl ?_
          refine J.mask [true, true, true, true] ?_
          exact ih S4 (0 : Int32) (x3 + (1 : Int32)) H
        · have H := ite_t H q6
          refine J.run b_R_readOne_29_1 k_R_readOne_29_1 rfl (show J w (d + 3) m_R_readOne (n0, z0, some (.int z.1), mk c z.2) 30 [some (.ref 128), some (.int x1), some (.int x2), some (.int x3)] [.int (1 : Int32)] (mk c S4) from ?_)
          refine J.goto (tgt := 34) d_R_readOne_30 rfl ?_
          refine J.run b_R_readOne_34_2 k_R_readOne_34_2 rfl (show J w (d + 3) m_R_readOne (n0, z0, some (.int z.1), mk c z.2) 38 [some (.ref 128), some (.int x1), some (.int (1 : Int32)), some (.int (x3 + (1 : Int32)))] [] (mk c S4) from ?_)
          refine J.goto (tgt := 4) d_R_readOne_38 rfl ?_
          refine J.mask [true, true, true, true] ?_
          exact ih S4 (1 : Int32) (x3 + (1 : Int32)) H
theorem c_R_readOne (w : Wd) (d : Nat) (c : cx) {rc : hs → Int32 → Option (Int32 × hs)} (rc_ok : ∀ (D : Nat), d ≤ D → ∀ (S : hs) (x1 : Int32) (z : Int32 × hs), rc S x1 = some z → Cl w D m_R_readCond [.ref 128, .int x1] (mk c S) (some (.int z.1)) (mk c z.2)) (S : hs) (x1 : Int32)  {z : Int32 × hs} (H : f_R_readOne rc S x1 = some z) : Cl w (d + 3) m_R_readOne [.ref 128, .int x1] (mk c S) (some (.int z.1)) (mk c z.2) := by
  refine Cl.of (Nat.le_refl _) (Nat.le_refl _) (by decide +kernel) (Nat.le_of_ble_eq_true rfl) ?_
  unfold f_R_readOne at H
  generalize hN (mk c S) = n0
  generalize hZ (mk c S) = z0
  show J w (d + 3) m_R_readOne (n0, z0, some (.int z.1), mk c z.2) 0 [some (.ref 128), some (.int x1), none, none] [] (mk c S)
  refine J.run b_R_readOne_0_4 k_R_readOne_0_4 rfl (show J w (d + 3) m_R_readOne (n0, z0, some (.int z.1), mk c z.2) 4 [some (.ref 128), some (.int x1), some (.int (0 : Int32)), some (.int (0 : Int32))] [] (mk c S) from ?_)
  refine J.mask [true, true, true, true] ?_
  refine lo_R_readOne_4 w d c x1 rc_ok ?_ 1000 S (0 : Int32) (0 : Int32) H
  · intro S7 y8 y9 H
    try dsimp only at H
    refine J.run b_R_readOne_41_3 k_R_readOne_41_3 rfl (And.intro (okO_st (S := S7) rfl) (show J w (d + 3) m_R_readOne (n0, z0, some (.int z.1), mk c z.2) 48 [some (.ref 128), some (.int x1), some (.int y8), none] [.int (20140 : Int32), .int (gI S7 128 7)] (mk c S7) from ?_))
    refine J.cne (tgt := 59) d_R_readOne_48 rfl (fun q10 => ?_) (fun q10 => ?_)
    · have H := ite_f H q10
      refine J.run b_R_readOne_59_1 k_R_readOne_59_1 rfl (show J w (d + 3) m_R_readOne (n0, z0, some (.int z.1), mk c z.2) 60 [some (.ref 128), some (.int x1), some (.int y8), none] [.ref 128] (mk c S7) from ?_)
      obtain ⟨r11, S12, h13, H⟩ := bd_e H
      refine J.callV (y := m_R_readComparison) (av := []) (rest := []) (q := 128) l_R_148 d_R_readOne_60 (isC_st rfl rfl) (c_R_readComparison w (d + 0) c  S7 h13) rfl (Nat.le_of_ble_eq_true rfl) ⟨Nat.le_refl _, Nat.le_refl _⟩ (show J w (d + 3) m_R_readOne (n0, z0, some (.int z.1), mk c z.2) 63 [some (.ref 128), some (.int x1), some (.int y8), none] [.int r11] (mk c S12) from ?_)
      refine J.run b_R_readOne_63_2 k_R_readOne_63_2 rfl (show J w (d + 3) m_R_readOne (n0, z0, some (.int z.1), mk c z.2) 65 [some (.ref 128), some (.int x1), some (.int y8), some (.int r11)] [.int y8] (mk c S12) from ?_)
      refine J.zeq (tgt := 78) d_R_readOne_65 rfl (fun q14 => ?_) (fun q14 => ?_)
      · have H := ite_t H q14
        refine J.run b_R_readOne_78_1 k_R_readOne_78_1 rfl (show J w (d + 3) m_R_readOne (n0, z0, some (.int z.1), mk c z.2) 79 [some (.ref 128), some (.int x1), some (.int y8), some (.int r11)] [.int r11] (mk c S12) from ?_)
        obtain ⟨g15, H⟩ := ck_e H
        obtain rfl := some_e H
        exact J.nret d_R_readOne_79 rfl (isB_n g15) rfl
      · have H := ite_f H q14
        refine J.run b_R_readOne_68_5 k_R_readOne_68_5 rfl (And.intro (okO_st (S := S12) rfl) (show J w (d + 3) m_R_readOne (n0, z0, some (.int z.1), mk c z.2) 75 [some (.ref 128), some (.int x1), some (.int y8), some (.int r11)] [.int (0 : Int32), .int (0 : Int32), .int (3 : Int32), .ref 129] (mk c S12) from ?_))
        obtain ⟨r16, S17, h18, H⟩ := bd_e H
        refine J.callV (y := m_A_addStep) (av := [.int (3 : Int32), .int (0 : Int32), .int (0 : Int32)]) (rest := []) (q := 129) l_R_138 d_R_readOne_75 (isC_st rfl rfl) (c_A_addStep_129 w (d + 1) c  S12 (3 : Int32) (0 : Int32) (0 : Int32) h18) rfl (Nat.le_of_ble_eq_true rfl) ⟨Nat.le_refl _, Nat.le_refl _⟩ (show J w (d + 3) m_R_readOne (n0, z0, some (.int z.1), mk c z.2) 78 [some (.ref 128), some (.int x1), some (.int y8), some (.int r11)] [] (mk c S17) from ?_)
        refine J.run b_R_readOne_78_1 k_R_readOne_78_1 rfl (show J w (d + 3) m_R_readOne (n0, z0, some (.int z.1), mk c z.2) 79 [some (.ref 128), some (.int x1), some (.int y8), some (.int r11)] [.int r11] (mk c S17) from ?_)
        obtain ⟨g19, H⟩ := ck_e H
        obtain rfl := some_e H
        exact J.nret d_R_readOne_79 rfl (isB_n g19) rfl
    · have H := ite_t H q10
      refine J.run b_R_readOne_51_2 k_R_readOne_51_2 rfl (show J w (d + 3) m_R_readOne (n0, z0, some (.int z.1), mk c z.2) 53 [some (.ref 128), some (.int x1), some (.int y8), none] [.int x1, .ref 128] (mk c S7) from ?_)
      obtain ⟨r20, S21, h22, H⟩ := bd_e H
      refine J.callV (y := m_R_readInner) (av := [.int x1]) (rest := []) (q := 128) l_R_145 d_R_readOne_53 (isC_st rfl rfl) (c_R_readInner w (d + 0) c (fun D hD => rc_ok D (Nat.le_trans (Nat.le_add_right d 0) hD)) S7 x1 h22) rfl (Nat.le_of_ble_eq_true rfl) ⟨Nat.le_refl _, Nat.le_refl _⟩ (show J w (d + 3) m_R_readOne (n0, z0, some (.int z.1), mk c z.2) 56 [some (.ref 128), some (.int x1), some (.int y8), none] [.int r20] (mk c S21) from ?_)
      refine J.goto (tgt := 63) d_R_readOne_56 rfl ?_
      refine J.run b_R_readOne_63_2 k_R_readOne_63_2 rfl (show J w (d + 3) m_R_readOne (n0, z0, some (.int z.1), mk c z.2) 65 [some (.ref 128), some (.int x1), some (.int y8), some (.int r20)] [.int y8] (mk c S21) from ?_)
      refine J.zeq (tgt := 78) d_R_readOne_65 rfl (fun q23 => ?_) (fun q23 => ?_)
      · have H := ite_t H q23
        refine J.run b_R_readOne_78_1 k_R_readOne_78_1 rfl (show J w (d + 3) m_R_readOne (n0, z0, some (.int z.1), mk c z.2) 79 [some (.ref 128), some (.int x1), some (.int y8), some (.int r20)] [.int r20] (mk c S21) from ?_)
        obtain ⟨g24, H⟩ := ck_e H
        obtain rfl := some_e H
        exact J.nret d_R_readOne_79 rfl (isB_n g24) rfl
      · have H := ite_f H q23
        refine J.run b_R_readOne_68_5 k_R_readOne_68_5 rfl (And.intro (okO_st (S := S21) rfl) (show J w (d + 3) m_R_readOne (n0, z0, some (.int z.1), mk c z.2) 75 [some (.ref 128), some (.int x1), some (.int y8), some (.int r20)] [.int (0 : Int32), .int (0 : Int32), .int (3 : Int32), .ref 129] (mk c S21) from ?_))
        obtain ⟨r25, S26, h27, H⟩ := bd_e H
        refine J.callV (y := m_A_addStep) (av := [.int (3 : Int32), .int (0 : Int32), .int (0 : Int32)]) (rest := []) (q := 129) l_R_138 d_R_readOne_75 (isC_st rfl rfl) (c_A_addStep_129 w (d + 1) c  S21 (3 : Int32) (0 : Int32) (0 : Int32) h27) rfl (Nat.le_of_ble_eq_true rfl) ⟨Nat.le_refl _, Nat.le_refl _⟩ (show J w (d + 3) m_R_readOne (n0, z0, some (.int z.1), mk c z.2) 78 [some (.ref 128), some (.int x1), some (.int y8), some (.int r20)] [] (mk c S26) from ?_)
        refine J.run b_R_readOne_78_1 k_R_readOne_78_1 rfl (show J w (d + 3) m_R_readOne (n0, z0, some (.int z.1), mk c z.2) 79 [some (.ref 128), some (.int x1), some (.int y8), some (.int r20)] [.int r20] (mk c S26) from ?_)
        obtain ⟨g28, H⟩ := ck_e H
        obtain rfl := some_e H
        exact J.nret d_R_readOne_79 rfl (isB_n g28) rfl
def b_R_readAll_0_2 : List Ins := [(.aload_n 0, 0, 0, 0), (.iload_n 1, 0, 0, 0)]
theorem k_R_readAll_0_2 : bok m_R_readAll 0 b_R_readAll_0_2 = true := by decide +kernel
def b_R_readAll_5_3 : List Ins := [(.istore_n 2, 0, 0, 0), (.iconst (0), 0, 0, 0), (.istore_n 3, 0, 0, 0)]
theorem k_R_readAll_5_3 : bok m_R_readAll 5 b_R_readAll_5_3 = true := by decide +kernel
def b_R_readAll_8_2 : List Ins := [(.iload_n 3, 0, 0, 0), (.sipush (200), 0, 0, 0)]
theorem k_R_readAll_8_2 : bok m_R_readAll 8 b_R_readAll_8_2 = true := by decide +kernel
def b_R_readAll_55_1 : List Ins := [(.iload_n 2, 0, 0, 0)]
theorem k_R_readAll_55_1 : bok m_R_readAll 55 b_R_readAll_55_1 = true := by decide +kernel
def b_R_readAll_15_1 : List Ins := [(.iload_n 2, 0, 0, 0)]
theorem k_R_readAll_15_1 : bok m_R_readAll 15 b_R_readAll_15_1 = true := by decide +kernel
def b_R_readAll_19_3 : List Ins := [(.aload_n 0, 0, 0, 0), (.getfield 45, 3, 7, 0), (.sipush (20004), 0, 0, 0)]
theorem k_R_readAll_19_3 : bok m_R_readAll 19 b_R_readAll_19_3 = true := by decide +kernel
def b_R_readAll_29_1 : List Ins := [(.aload_n 0, 0, 0, 0)]
theorem k_R_readAll_29_1 : bok m_R_readAll 29 b_R_readAll_29_1 = true := by decide +kernel
def b_R_readAll_33_2 : List Ins := [(.aload_n 0, 0, 0, 0), (.iload_n 1, 0, 0, 0)]
theorem k_R_readAll_33_2 : bok m_R_readAll 33 b_R_readAll_33_2 = true := by decide +kernel
def b_R_readAll_38_6 : List Ins := [(.istore_n 2, 0, 0, 0), (.aload_n 0, 0, 0, 0), (.getfield 14, 3, 0, 2), (.iconst (4), 0, 0, 0), (.iconst (0), 0, 0, 0), (.iconst (0), 0, 0, 0)]
theorem k_R_readAll_38_6 : bok m_R_readAll 38 b_R_readAll_38_6 = true := by decide +kernel
def b_R_readAll_49_1 : List Ins := [(.iinc 3 (1), 0, 0, 0)]
theorem k_R_readAll_49_1 : bok m_R_readAll 49 b_R_readAll_49_1 = true := by decide +kernel
theorem d_R_readAll_2 : decode m_R_readAll.2.1 2 = .ok (.invokevirtual 142, 3) := by decide +kernel
theorem d_R_readAll_12 : decode m_R_readAll.2.1 12 = .ok (.if_icmp .ge (43), 3) := by decide +kernel
theorem d_R_readAll_56 : decode m_R_readAll.2.1 56 = .ok (.ireturn, 1) := by decide +kernel
theorem d_R_readAll_16 : decode m_R_readAll.2.1 16 = .ok (.ifCond .eq (39), 3) := by decide +kernel
theorem d_R_readAll_26 : decode m_R_readAll.2.1 26 = .ok (.if_icmp .ne (29), 3) := by decide +kernel
theorem d_R_readAll_30 : decode m_R_readAll.2.1 30 = .ok (.invokevirtual 42, 3) := by decide +kernel
theorem d_R_readAll_35 : decode m_R_readAll.2.1 35 = .ok (.invokevirtual 142, 3) := by decide +kernel
theorem d_R_readAll_46 : decode m_R_readAll.2.1 46 = .ok (.invokevirtual 138, 3) := by decide +kernel
theorem d_R_readAll_52 : decode m_R_readAll.2.1 52 = .ok (.goto (-44), 3) := by decide +kernel
def lp_R_readAll_8 (x1 : Int32) (rc : hs → Int32 → Option (Int32 × hs))  : Nat → hs → Int32 → Int32 → Option (Int32 × hs)
  | 0, _, _, _ => none
  | n + 1, S, x2, x3 => (if (200 : Int32) ≤ x3 then ck (isB x2) (some (x2, S)) else (if x2 = 0 then ck (isB x2) (some (x2, S)) else (if (gI S 128 7) = (20004 : Int32) then bd (f_R_advance  S) fun r10 S11 => bd (f_R_readOne rc S11 x1) fun r13 S14 => bd (f_A_addStep_129  S14 (4 : Int32) (0 : Int32) (0 : Int32)) fun r16 S17 => lp_R_readAll_8 x1 rc n S17 r13 (x3 + (1 : Int32)) else ck (isB x2) (some (x2, S)))))
def f_R_readAll (rc : hs → Int32 → Option (Int32 × hs)) (S : hs) (x1 : Int32) : Option (Int32 × hs) := bd (f_R_readOne rc S x1) fun r1 S2 => lp_R_readAll_8 x1 rc 1000 S2 r1 (0 : Int32)
theorem lo_R_readAll_8 (w : Wd) (d : Nat) (c : cx) {n0 z0 : Nat} {z : Int32 × hs} {rc : hs → Int32 → Option (Int32 × hs)}  (x1 : Int32)  (rc_ok : ∀ (D : Nat), d ≤ D → ∀ (S : hs) (x1 : Int32) (z : Int32 × hs), rc S x1 = some z → Cl w D m_R_readCond [.ref 128, .int x1] (mk c S) (some (.int z.1)) (mk c z.2))  :
    ∀ (n : Nat) (S : hs) (x2 : Int32) (x3 : Int32), lp_R_readAll_8 x1 rc n S x2 x3 = some z → J w (d + 4) m_R_readAll (n0, z0, some (.int z.1), mk c z.2) 8 [some (.ref 128), some (.int x1), some (.int x2), some (.int x3)] [] (mk c S) := by
  intro n
  induction n with
  | zero => intro S x2 x3 H; cases H
  | succ n ih =>
    intro S x2 x3 H
    rw [lp_R_readAll_8] at H
    refine J.run b_R_readAll_8_2 k_R_readAll_8_2 rfl (show J w (d + 4) m_R_readAll (n0, z0, some (.int z.1), mk c z.2) 12 [some (.ref 128), some (.int x1), some (.int x2), some (.int x3)] [.int (200 : Int32), .int x3] (mk c S) from ?_)
    refine J.cge (tgt := 55) d_R_readAll_12 rfl (fun q4 => ?_) (fun q4 => ?_)
    · have H := ite_t H q4
      refine J.run b_R_readAll_55_1 k_R_readAll_55_1 rfl (show J w (d + 4) m_R_readAll (n0, z0, some (.int z.1), mk c z.2) 56 [some (.ref 128), some (.int x1), some (.int x2), some (.int x3)] [.int x2] (mk c S) from ?_)
      obtain ⟨g5, H⟩ := ck_e H
      obtain rfl := some_e H
      exact J.nret d_R_readAll_56 rfl (isB_n g5) rfl
    · have H := ite_f H q4
      refine J.run b_R_readAll_15_1 k_R_readAll_15_1 rfl (show J w (d + 4) m_R_readAll (n0, z0, some (.int z.1), mk c z.2) 16 [some (.ref 128), some (.int x1), some (.int x2), some (.int x3)] [.int x2] (mk c S) from ?_)
      refine J.zeq (tgt := 55) d_R_readAll_16 rfl (fun q6 => ?_) (fun q6 => ?_)
      · have H := ite_t H q6
        refine J.run b_R_readAll_55_1 k_R_readAll_55_1 rfl (show J w (d + 4) m_R_readAll (n0, z0, some (.int z.1), mk c z.2) 56 [some (.ref 128), some (.int x1), some (.int x2), some (.int x3)] [.int x2] (mk c S) from ?_)
        obtain ⟨g7, H⟩ := ck_e H
        obtain rfl := some_e H
        exact J.nret d_R_readAll_56 rfl (isB_n g7) rfl
      · have H := ite_f H q6
        refine J.run b_R_readAll_19_3 k_R_readAll_19_3 rfl (And.intro (okO_st (S := S) rfl) (show J w (d + 4) m_R_readAll (n0, z0, some (.int z.1), mk c z.2) 26 [some (.ref 128), some (.int x1), some (.int x2), some (.int x3)] [.int (20004 : Int32), .int (gI S 128 7)] (mk c S) from ?_))
        refine J.cne (tgt := 55) d_R_readAll_26 rfl (fun q8 => ?_) (fun q8 => ?_)
        · have H := ite_f H q8
          refine J.run b_R_readAll_55_1 k_R_readAll_55_1 rfl (show J w (d + 4) m_R_readAll (n0, z0, some (.int z.1), mk c z.2) 56 [some (.ref 128), some (.int x1), some (.int x2), some (.int x3)] [.int x2] (mk c S) from ?_)
          obtain ⟨g9, H⟩ := ck_e H
          obtain rfl := some_e H
          exact J.nret d_R_readAll_56 rfl (isB_n g9) rfl
        · have H := ite_t H q8
          refine J.run b_R_readAll_29_1 k_R_readAll_29_1 rfl (show J w (d + 4) m_R_readAll (n0, z0, some (.int z.1), mk c z.2) 30 [some (.ref 128), some (.int x1), some (.int x2), some (.int x3)] [.ref 128] (mk c S) from ?_)
          obtain ⟨r10, S11, h12, H⟩ := bd_e H
          refine J.callV (y := m_R_advance) (av := []) (rest := []) (q := 128) l_R_42 d_R_readAll_30 (isC_st rfl rfl) (c_R_advance w (d + 2) c  S h12) rfl (Nat.le_of_ble_eq_true rfl) ⟨Nat.le_refl _, Nat.le_refl _⟩ (show J w (d + 4) m_R_readAll (n0, z0, some (.int z.1), mk c z.2) 33 [some (.ref 128), some (.int x1), some (.int x2), some (.int x3)] [] (mk c S11) from ?_)
          refine J.run b_R_readAll_33_2 k_R_readAll_33_2 rfl (show J w (d + 4) m_R_readAll (n0, z0, some (.int z.1), mk c z.2) 35 [some (.ref 128), some (.int x1), some (.int x2), some (.int x3)] [.int x1, .ref 128] (mk c S11) from ?_)
          obtain ⟨r13, S14, h15, H⟩ := bd_e H
          refine J.callV (y := m_R_readOne) (av := [.int x1]) (rest := []) (q := 128) l_R_142 d_R_readAll_35 (isC_st rfl rfl) (c_R_readOne w (d + 0) c (fun D hD => rc_ok D (Nat.le_trans (Nat.le_add_right d 0) hD)) S11 x1 h15) rfl (Nat.le_of_ble_eq_true rfl) ⟨Nat.le_refl _, Nat.le_refl _⟩ (show J w (d + 4) m_R_readAll (n0, z0, some (.int z.1), mk c z.2) 38 [some (.ref 128), some (.int x1), some (.int x2), some (.int x3)] [.int r13] (mk c S14) from ?_)
          refine J.run b_R_readAll_38_6 k_R_readAll_38_6 rfl (And.intro (okO_st (S := S14) rfl) (show J w (d + 4) m_R_readAll (n0, z0, some (.int z.1), mk c z.2) 46 [some (.ref 128), some (.int x1), some (.int r13), some (.int x3)] [.int (0 : Int32), .int (0 : Int32), .int (4 : Int32), .ref 129] (mk c S14) from ?_))
          obtain ⟨r16, S17, h18, H⟩ := bd_e H
          refine J.callV (y := m_A_addStep) (av := [.int (4 : Int32), .int (0 : Int32), .int (0 : Int32)]) (rest := []) (q := 129) l_R_138 d_R_readAll_46 (isC_st rfl rfl) (c_A_addStep_129 w (d + 2) c  S14 (4 : Int32) (0 : Int32) (0 : Int32) h18) rfl (Nat.le_of_ble_eq_true rfl) ⟨Nat.le_refl _, Nat.le_refl _⟩ (show J w (d + 4) m_R_readAll (n0, z0, some (.int z.1), mk c z.2) 49 [some (.ref 128), some (.int x1), some (.int r13), some (.int x3)] [] (mk c S17) from ?_)
          refine J.run b_R_readAll_49_1 k_R_readAll_49_1 rfl (show J w (d + 4) m_R_readAll (n0, z0, some (.int z.1), mk c z.2) 52 [some (.ref 128), some (.int x1), some (.int r13), some (.int (x3 + (1 : Int32)))] [] (mk c S17) from ?_)
          refine J.goto (tgt := 8) d_R_readAll_52 rfl ?_
          refine J.mask [true, true, true, true] ?_
          exact ih S17 r13 (x3 + (1 : Int32)) H
theorem c_R_readAll (w : Wd) (d : Nat) (c : cx) {rc : hs → Int32 → Option (Int32 × hs)} (rc_ok : ∀ (D : Nat), d ≤ D → ∀ (S : hs) (x1 : Int32) (z : Int32 × hs), rc S x1 = some z → Cl w D m_R_readCond [.ref 128, .int x1] (mk c S) (some (.int z.1)) (mk c z.2)) (S : hs) (x1 : Int32)  {z : Int32 × hs} (H : f_R_readAll rc S x1 = some z) : Cl w (d + 4) m_R_readAll [.ref 128, .int x1] (mk c S) (some (.int z.1)) (mk c z.2) := by
  refine Cl.of (Nat.le_refl _) (Nat.le_refl _) (by decide +kernel) (Nat.le_of_ble_eq_true rfl) ?_
  unfold f_R_readAll at H
  generalize hN (mk c S) = n0
  generalize hZ (mk c S) = z0
  show J w (d + 4) m_R_readAll (n0, z0, some (.int z.1), mk c z.2) 0 [some (.ref 128), some (.int x1), none, none] [] (mk c S)
  refine J.run b_R_readAll_0_2 k_R_readAll_0_2 rfl (show J w (d + 4) m_R_readAll (n0, z0, some (.int z.1), mk c z.2) 2 [some (.ref 128), some (.int x1), none, none] [.int x1, .ref 128] (mk c S) from ?_)
  obtain ⟨r1, S2, h3, H⟩ := bd_e H
  refine J.callV (y := m_R_readOne) (av := [.int x1]) (rest := []) (q := 128) l_R_142 d_R_readAll_2 (isC_st rfl rfl) (c_R_readOne w (d + 0) c (fun D hD => rc_ok D (Nat.le_trans (Nat.le_add_right d 0) hD)) S x1 h3) rfl (Nat.le_of_ble_eq_true rfl) ⟨Nat.le_refl _, Nat.le_refl _⟩ (show J w (d + 4) m_R_readAll (n0, z0, some (.int z.1), mk c z.2) 5 [some (.ref 128), some (.int x1), none, none] [.int r1] (mk c S2) from ?_)
  refine J.run b_R_readAll_5_3 k_R_readAll_5_3 rfl (show J w (d + 4) m_R_readAll (n0, z0, some (.int z.1), mk c z.2) 8 [some (.ref 128), some (.int x1), some (.int r1), some (.int (0 : Int32))] [] (mk c S2) from ?_)
  refine J.mask [true, true, true, true] ?_
  refine lo_R_readAll_8 w d c x1 rc_ok  1000 S2 r1 (0 : Int32) H
def b_R_readCond_0_2 : List Ins := [(.aload_n 0, 0, 0, 0), (.iload_n 1, 0, 0, 0)]
theorem k_R_readCond_0_2 : bok m_R_readCond 0 b_R_readCond_0_2 = true := by decide +kernel
def b_R_readCond_5_3 : List Ins := [(.istore_n 2, 0, 0, 0), (.iconst (0), 0, 0, 0), (.istore_n 3, 0, 0, 0)]
theorem k_R_readCond_5_3 : bok m_R_readCond 5 b_R_readCond_5_3 = true := by decide +kernel
def b_R_readCond_8_2 : List Ins := [(.iload_n 3, 0, 0, 0), (.sipush (200), 0, 0, 0)]
theorem k_R_readCond_8_2 : bok m_R_readCond 8 b_R_readCond_8_2 = true := by decide +kernel
def b_R_readCond_55_1 : List Ins := [(.iload_n 2, 0, 0, 0)]
theorem k_R_readCond_55_1 : bok m_R_readCond 55 b_R_readCond_55_1 = true := by decide +kernel
def b_R_readCond_15_1 : List Ins := [(.iload_n 2, 0, 0, 0)]
theorem k_R_readCond_15_1 : bok m_R_readCond 15 b_R_readCond_15_1 = true := by decide +kernel
def b_R_readCond_19_3 : List Ins := [(.aload_n 0, 0, 0, 0), (.getfield 45, 3, 7, 0), (.sipush (20003), 0, 0, 0)]
theorem k_R_readCond_19_3 : bok m_R_readCond 19 b_R_readCond_19_3 = true := by decide +kernel
def b_R_readCond_29_1 : List Ins := [(.aload_n 0, 0, 0, 0)]
theorem k_R_readCond_29_1 : bok m_R_readCond 29 b_R_readCond_29_1 = true := by decide +kernel
def b_R_readCond_33_2 : List Ins := [(.aload_n 0, 0, 0, 0), (.iload_n 1, 0, 0, 0)]
theorem k_R_readCond_33_2 : bok m_R_readCond 33 b_R_readCond_33_2 = true := by decide +kernel
def b_R_readCond_38_6 : List Ins := [(.istore_n 2, 0, 0, 0), (.aload_n 0, 0, 0, 0), (.getfield 14, 3, 0, 2), (.iconst (5), 0, 0, 0), (.iconst (0), 0, 0, 0), (.iconst (0), 0, 0, 0)]
theorem k_R_readCond_38_6 : bok m_R_readCond 38 b_R_readCond_38_6 = true := by decide +kernel
def b_R_readCond_49_1 : List Ins := [(.iinc 3 (1), 0, 0, 0)]
theorem k_R_readCond_49_1 : bok m_R_readCond 49 b_R_readCond_49_1 = true := by decide +kernel
theorem d_R_readCond_2 : decode m_R_readCond.2.1 2 = .ok (.invokevirtual 135, 3) := by decide +kernel
theorem d_R_readCond_12 : decode m_R_readCond.2.1 12 = .ok (.if_icmp .ge (43), 3) := by decide +kernel
theorem d_R_readCond_56 : decode m_R_readCond.2.1 56 = .ok (.ireturn, 1) := by decide +kernel
theorem d_R_readCond_16 : decode m_R_readCond.2.1 16 = .ok (.ifCond .eq (39), 3) := by decide +kernel
theorem d_R_readCond_26 : decode m_R_readCond.2.1 26 = .ok (.if_icmp .ne (29), 3) := by decide +kernel
theorem d_R_readCond_30 : decode m_R_readCond.2.1 30 = .ok (.invokevirtual 42, 3) := by decide +kernel
theorem d_R_readCond_35 : decode m_R_readCond.2.1 35 = .ok (.invokevirtual 135, 3) := by decide +kernel
theorem d_R_readCond_46 : decode m_R_readCond.2.1 46 = .ok (.invokevirtual 138, 3) := by decide +kernel
theorem d_R_readCond_52 : decode m_R_readCond.2.1 52 = .ok (.goto (-44), 3) := by decide +kernel
def lp_R_readCond_8 (x1 : Int32) (rc : hs → Int32 → Option (Int32 × hs))  : Nat → hs → Int32 → Int32 → Option (Int32 × hs)
  | 0, _, _, _ => none
  | n + 1, S, x2, x3 => (if (200 : Int32) ≤ x3 then ck (isB x2) (some (x2, S)) else (if x2 = 0 then ck (isB x2) (some (x2, S)) else (if (gI S 128 7) = (20003 : Int32) then bd (f_R_advance  S) fun r10 S11 => bd (f_R_readAll rc S11 x1) fun r13 S14 => bd (f_A_addStep_129  S14 (5 : Int32) (0 : Int32) (0 : Int32)) fun r16 S17 => lp_R_readCond_8 x1 rc n S17 r13 (x3 + (1 : Int32)) else ck (isB x2) (some (x2, S)))))
def f_R_readCond (rc : hs → Int32 → Option (Int32 × hs)) (S : hs) (x1 : Int32) : Option (Int32 × hs) := bd (f_R_readAll rc S x1) fun r1 S2 => lp_R_readCond_8 x1 rc 1000 S2 r1 (0 : Int32)
theorem lo_R_readCond_8 (w : Wd) (d : Nat) (c : cx) {n0 z0 : Nat} {z : Int32 × hs} {rc : hs → Int32 → Option (Int32 × hs)}  (x1 : Int32)  (rc_ok : ∀ (D : Nat), d ≤ D → ∀ (S : hs) (x1 : Int32) (z : Int32 × hs), rc S x1 = some z → Cl w D m_R_readCond [.ref 128, .int x1] (mk c S) (some (.int z.1)) (mk c z.2))  :
    ∀ (n : Nat) (S : hs) (x2 : Int32) (x3 : Int32), lp_R_readCond_8 x1 rc n S x2 x3 = some z → J w (d + 5) m_R_readCond (n0, z0, some (.int z.1), mk c z.2) 8 [some (.ref 128), some (.int x1), some (.int x2), some (.int x3)] [] (mk c S) := by
  intro n
  induction n with
  | zero => intro S x2 x3 H; cases H
  | succ n ih =>
    intro S x2 x3 H
    rw [lp_R_readCond_8] at H
    refine J.run b_R_readCond_8_2 k_R_readCond_8_2 rfl (show J w (d + 5) m_R_readCond (n0, z0, some (.int z.1), mk c z.2) 12 [some (.ref 128), some (.int x1), some (.int x2), some (.int x3)] [.int (200 : Int32), .int x3] (mk c S) from ?_)
    refine J.cge (tgt := 55) d_R_readCond_12 rfl (fun q4 => ?_) (fun q4 => ?_)
    · have H := ite_t H q4
      refine J.run b_R_readCond_55_1 k_R_readCond_55_1 rfl (show J w (d + 5) m_R_readCond (n0, z0, some (.int z.1), mk c z.2) 56 [some (.ref 128), some (.int x1), some (.int x2), some (.int x3)] [.int x2] (mk c S) from ?_)
      obtain ⟨g5, H⟩ := ck_e H
      obtain rfl := some_e H
      exact J.nret d_R_readCond_56 rfl (isB_n g5) rfl
    · have H := ite_f H q4
      refine J.run b_R_readCond_15_1 k_R_readCond_15_1 rfl (show J w (d + 5) m_R_readCond (n0, z0, some (.int z.1), mk c z.2) 16 [some (.ref 128), some (.int x1), some (.int x2), some (.int x3)] [.int x2] (mk c S) from ?_)
      refine J.zeq (tgt := 55) d_R_readCond_16 rfl (fun q6 => ?_) (fun q6 => ?_)
      · have H := ite_t H q6
        refine J.run b_R_readCond_55_1 k_R_readCond_55_1 rfl (show J w (d + 5) m_R_readCond (n0, z0, some (.int z.1), mk c z.2) 56 [some (.ref 128), some (.int x1), some (.int x2), some (.int x3)] [.int x2] (mk c S) from ?_)
        obtain ⟨g7, H⟩ := ck_e H
        obtain rfl := some_e H
        exact J.nret d_R_readCond_56 rfl (isB_n g7) rfl
      · have H := ite_f H q6
        refine J.run b_R_readCond_19_3 k_R_readCond_19_3 rfl (And.intro (okO_st (S := S) rfl) (show J w (d + 5) m_R_readCond (n0, z0, some (.int z.1), mk c z.2) 26 [some (.ref 128), some (.int x1), some (.int x2), some (.int x3)] [.int (20003 : Int32), .int (gI S 128 7)] (mk c S) from ?_))
        refine J.cne (tgt := 55) d_R_readCond_26 rfl (fun q8 => ?_) (fun q8 => ?_)
        · have H := ite_f H q8
          refine J.run b_R_readCond_55_1 k_R_readCond_55_1 rfl (show J w (d + 5) m_R_readCond (n0, z0, some (.int z.1), mk c z.2) 56 [some (.ref 128), some (.int x1), some (.int x2), some (.int x3)] [.int x2] (mk c S) from ?_)
          obtain ⟨g9, H⟩ := ck_e H
          obtain rfl := some_e H
          exact J.nret d_R_readCond_56 rfl (isB_n g9) rfl
        · have H := ite_t H q8
          refine J.run b_R_readCond_29_1 k_R_readCond_29_1 rfl (show J w (d + 5) m_R_readCond (n0, z0, some (.int z.1), mk c z.2) 30 [some (.ref 128), some (.int x1), some (.int x2), some (.int x3)] [.ref 128] (mk c S) from ?_)
          obtain ⟨r10, S11, h12, H⟩ := bd_e H
          refine J.callV (y := m_R_advance) (av := []) (rest := []) (q := 128) l_R_42 d_R_readCond_30 (isC_st rfl rfl) (c_R_advance w (d + 3) c  S h12) rfl (Nat.le_of_ble_eq_true rfl) ⟨Nat.le_refl _, Nat.le_refl _⟩ (show J w (d + 5) m_R_readCond (n0, z0, some (.int z.1), mk c z.2) 33 [some (.ref 128), some (.int x1), some (.int x2), some (.int x3)] [] (mk c S11) from ?_)
          refine J.run b_R_readCond_33_2 k_R_readCond_33_2 rfl (show J w (d + 5) m_R_readCond (n0, z0, some (.int z.1), mk c z.2) 35 [some (.ref 128), some (.int x1), some (.int x2), some (.int x3)] [.int x1, .ref 128] (mk c S11) from ?_)
          obtain ⟨r13, S14, h15, H⟩ := bd_e H
          refine J.callV (y := m_R_readAll) (av := [.int x1]) (rest := []) (q := 128) l_R_135 d_R_readCond_35 (isC_st rfl rfl) (c_R_readAll w (d + 0) c (fun D hD => rc_ok D (Nat.le_trans (Nat.le_add_right d 0) hD)) S11 x1 h15) rfl (Nat.le_of_ble_eq_true rfl) ⟨Nat.le_refl _, Nat.le_refl _⟩ (show J w (d + 5) m_R_readCond (n0, z0, some (.int z.1), mk c z.2) 38 [some (.ref 128), some (.int x1), some (.int x2), some (.int x3)] [.int r13] (mk c S14) from ?_)
          refine J.run b_R_readCond_38_6 k_R_readCond_38_6 rfl (And.intro (okO_st (S := S14) rfl) (show J w (d + 5) m_R_readCond (n0, z0, some (.int z.1), mk c z.2) 46 [some (.ref 128), some (.int x1), some (.int r13), some (.int x3)] [.int (0 : Int32), .int (0 : Int32), .int (5 : Int32), .ref 129] (mk c S14) from ?_))
          obtain ⟨r16, S17, h18, H⟩ := bd_e H
          refine J.callV (y := m_A_addStep) (av := [.int (5 : Int32), .int (0 : Int32), .int (0 : Int32)]) (rest := []) (q := 129) l_R_138 d_R_readCond_46 (isC_st rfl rfl) (c_A_addStep_129 w (d + 3) c  S14 (5 : Int32) (0 : Int32) (0 : Int32) h18) rfl (Nat.le_of_ble_eq_true rfl) ⟨Nat.le_refl _, Nat.le_refl _⟩ (show J w (d + 5) m_R_readCond (n0, z0, some (.int z.1), mk c z.2) 49 [some (.ref 128), some (.int x1), some (.int r13), some (.int x3)] [] (mk c S17) from ?_)
          refine J.run b_R_readCond_49_1 k_R_readCond_49_1 rfl (show J w (d + 5) m_R_readCond (n0, z0, some (.int z.1), mk c z.2) 52 [some (.ref 128), some (.int x1), some (.int r13), some (.int (x3 + (1 : Int32)))] [] (mk c S17) from ?_)
          refine J.goto (tgt := 8) d_R_readCond_52 rfl ?_
          refine J.mask [true, true, true, true] ?_
          exact ih S17 r13 (x3 + (1 : Int32)) H
theorem c_R_readCond (w : Wd) (d : Nat) (c : cx) {rc : hs → Int32 → Option (Int32 × hs)} (rc_ok : ∀ (D : Nat), d ≤ D → ∀ (S : hs) (x1 : Int32) (z : Int32 × hs), rc S x1 = some z → Cl w D m_R_readCond [.ref 128, .int x1] (mk c S) (some (.int z.1)) (mk c z.2)) (S : hs) (x1 : Int32)  {z : Int32 × hs} (H : f_R_readCond rc S x1 = some z) : Cl w (d + 5) m_R_readCond [.ref 128, .int x1] (mk c S) (some (.int z.1)) (mk c z.2) := by
  refine Cl.of (Nat.le_refl _) (Nat.le_refl _) (by decide +kernel) (Nat.le_of_ble_eq_true rfl) ?_
  unfold f_R_readCond at H
  generalize hN (mk c S) = n0
  generalize hZ (mk c S) = z0
  show J w (d + 5) m_R_readCond (n0, z0, some (.int z.1), mk c z.2) 0 [some (.ref 128), some (.int x1), none, none] [] (mk c S)
  refine J.run b_R_readCond_0_2 k_R_readCond_0_2 rfl (show J w (d + 5) m_R_readCond (n0, z0, some (.int z.1), mk c z.2) 2 [some (.ref 128), some (.int x1), none, none] [.int x1, .ref 128] (mk c S) from ?_)
  obtain ⟨r1, S2, h3, H⟩ := bd_e H
  refine J.callV (y := m_R_readAll) (av := [.int x1]) (rest := []) (q := 128) l_R_135 d_R_readCond_2 (isC_st rfl rfl) (c_R_readAll w (d + 0) c (fun D hD => rc_ok D (Nat.le_trans (Nat.le_add_right d 0) hD)) S x1 h3) rfl (Nat.le_of_ble_eq_true rfl) ⟨Nat.le_refl _, Nat.le_refl _⟩ (show J w (d + 5) m_R_readCond (n0, z0, some (.int z.1), mk c z.2) 5 [some (.ref 128), some (.int x1), none, none] [.int r1] (mk c S2) from ?_)
  refine J.run b_R_readCond_5_3 k_R_readCond_5_3 rfl (show J w (d + 5) m_R_readCond (n0, z0, some (.int z.1), mk c z.2) 8 [some (.ref 128), some (.int x1), some (.int r1), some (.int (0 : Int32))] [] (mk c S2) from ?_)
  refine J.mask [true, true, true, true] ?_
  refine lo_R_readCond_8 w d c x1 rc_ok  1000 S2 r1 (0 : Int32) H
