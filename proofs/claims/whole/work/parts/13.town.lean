/-! Town -/
def b_T_isTaken_0_2 : List Ins := [(.iconst (0), 0, 0, 0), (.istore_n 3, 0, 0, 0)]
theorem k_T_isTaken_0_2 : bok m_T_isTaken 0 b_T_isTaken_0_2 = true := by decide +kernel
def b_T_isTaken_2_3 : List Ins := [(.iload_n 3, 0, 0, 0), (.aload_n 0, 0, 0, 0), (.getfield 33, 1, 5, 0)]
theorem k_T_isTaken_2_3 : bok m_T_isTaken 2 b_T_isTaken_2_3 = true := by decide +kernel
def b_T_isTaken_48_1 : List Ins := [(.iconst (0), 0, 0, 0)]
theorem k_T_isTaken_48_1 : bok m_T_isTaken 48 b_T_isTaken_48_1 = true := by decide +kernel
def b_T_isTaken_10_2 : List Ins := [(.iload_n 3, 0, 0, 0), (.bipush (12), 0, 0, 0)]
theorem k_T_isTaken_10_2 : bok m_T_isTaken 10 b_T_isTaken_10_2 = true := by decide +kernel
def b_T_isTaken_16_7 : List Ins := [(.aload_n 0, 0, 0, 0), (.getfield 11, 1, 0, 2), (.iload_n 3, 0, 0, 0), (.aaload, 0, 0, 0), (.iconst (0), 0, 0, 0), (.iaload, 0, 0, 0), (.iload_n 1, 0, 0, 0)]
theorem k_T_isTaken_16_7 : bok m_T_isTaken 16 b_T_isTaken_16_7 = true := by decide +kernel
def b_T_isTaken_42_1 : List Ins := [(.iinc 3 (1), 0, 0, 0)]
theorem k_T_isTaken_42_1 : bok m_T_isTaken 42 b_T_isTaken_42_1 = true := by decide +kernel
def b_T_isTaken_28_7 : List Ins := [(.aload_n 0, 0, 0, 0), (.getfield 11, 1, 0, 2), (.iload_n 3, 0, 0, 0), (.aaload, 0, 0, 0), (.iconst (1), 0, 0, 0), (.iaload, 0, 0, 0), (.iload_n 2, 0, 0, 0)]
theorem k_T_isTaken_28_7 : bok m_T_isTaken 28 b_T_isTaken_28_7 = true := by decide +kernel
def b_T_isTaken_40_1 : List Ins := [(.iconst (1), 0, 0, 0)]
theorem k_T_isTaken_40_1 : bok m_T_isTaken 40 b_T_isTaken_40_1 = true := by decide +kernel
theorem d_T_isTaken_7 : decode m_T_isTaken.2.1 7 = .ok (.if_icmp .ge (41), 3) := by decide +kernel
theorem d_T_isTaken_49 : decode m_T_isTaken.2.1 49 = .ok (.ireturn, 1) := by decide +kernel
theorem d_T_isTaken_13 : decode m_T_isTaken.2.1 13 = .ok (.if_icmp .ge (35), 3) := by decide +kernel
theorem d_T_isTaken_25 : decode m_T_isTaken.2.1 25 = .ok (.if_icmp .ne (17), 3) := by decide +kernel
theorem d_T_isTaken_45 : decode m_T_isTaken.2.1 45 = .ok (.goto (-43), 3) := by decide +kernel
theorem d_T_isTaken_37 : decode m_T_isTaken.2.1 37 = .ok (.if_icmp .ne (5), 3) := by decide +kernel
theorem d_T_isTaken_41 : decode m_T_isTaken.2.1 41 = .ok (.ireturn, 1) := by decide +kernel
def lp_T_isTaken_2 (x1 : Int32) (x2 : Int32)   : Nat → hs → Int32 → Option (Int32 × hs)
  | 0, _, _ => none
  | n + 1, S, x3 => (if (gI S 34 5) ≤ x3 then some ((0 : Int32), S) else (if (12 : Int32) ≤ x3 then some ((0 : Int32), S) else ck (inb x3 12) ((if (gI S (36 + (x3).toNatClampNeg) 0) = x1 then (if (gI S (36 + (x3).toNatClampNeg) 1) = x2 then some ((1 : Int32), S) else lp_T_isTaken_2 x1 x2 n S (x3 + (1 : Int32))) else lp_T_isTaken_2 x1 x2 n S (x3 + (1 : Int32))))))
def f_T_isTaken  (S : hs) (x1 : Int32) (x2 : Int32) : Option (Int32 × hs) := lp_T_isTaken_2 x1 x2 1000 S (0 : Int32)
theorem lo_T_isTaken_2 (w : Wd) (d : Nat) (c : cx) {n0 z0 : Nat} {z : Int32 × hs}   (x1 : Int32) (x2 : Int32)    :
    ∀ (n : Nat) (S : hs) (x3 : Int32), lp_T_isTaken_2 x1 x2 n S x3 = some z → J w (d + 1) m_T_isTaken (n0, z0, some (.int z.1), mk c z.2) 2 [some (.ref 34), some (.int x1), some (.int x2), some (.int x3)] [] (mk c S) := by
  intro n
  induction n with
  | zero => intro S x3 H; cases H
  | succ n ih =>
    intro S x3 H
    rw [lp_T_isTaken_2] at H
    refine J.run b_T_isTaken_2_3 k_T_isTaken_2_3 rfl (And.intro (okO_st (S := S) rfl) (show J w (d + 1) m_T_isTaken (n0, z0, some (.int z.1), mk c z.2) 7 [some (.ref 34), some (.int x1), some (.int x2), some (.int x3)] [.int (gI S 34 5), .int x3] (mk c S) from ?_))
    refine J.cge (tgt := 48) d_T_isTaken_7 rfl (fun q1 => ?_) (fun q1 => ?_)
    · have H := ite_t H q1
      refine J.run b_T_isTaken_48_1 k_T_isTaken_48_1 rfl (show J w (d + 1) m_T_isTaken (n0, z0, some (.int z.1), mk c z.2) 49 [some (.ref 34), some (.int x1), some (.int x2), some (.int x3)] [.int (0 : Int32)] (mk c S) from ?_)
      obtain rfl := some_e H
      exact J.nret d_T_isTaken_49 rfl rfl rfl
    · have H := ite_f H q1
      refine J.run b_T_isTaken_10_2 k_T_isTaken_10_2 rfl (show J w (d + 1) m_T_isTaken (n0, z0, some (.int z.1), mk c z.2) 13 [some (.ref 34), some (.int x1), some (.int x2), some (.int x3)] [.int (12 : Int32), .int x3] (mk c S) from ?_)
      refine J.cge (tgt := 48) d_T_isTaken_13 rfl (fun q2 => ?_) (fun q2 => ?_)
      · have H := ite_t H q2
        refine J.run b_T_isTaken_48_1 k_T_isTaken_48_1 rfl (show J w (d + 1) m_T_isTaken (n0, z0, some (.int z.1), mk c z.2) 49 [some (.ref 34), some (.int x1), some (.int x2), some (.int x3)] [.int (0 : Int32)] (mk c S) from ?_)
        obtain rfl := some_e H
        exact J.nret d_T_isTaken_49 rfl rfl rfl
      · have H := ite_f H q2
        obtain ⟨g3, H⟩ := ck_e H
        refine J.run b_T_isTaken_16_7 k_T_isTaken_16_7 rfl (And.intro (okO_st (S := S) rfl) (And.intro (okQ_st (S := S) (k := 23) (n := 12) rfl rfl g3) (And.intro (okA_row (S := S) (b := 36) (cnt := 12) (n := 2) rfl (inb_lt g3) rfl) (show J w (d + 1) m_T_isTaken (n0, z0, some (.int z.1), mk c z.2) 25 [some (.ref 34), some (.int x1), some (.int x2), some (.int x3)] [.int x1, .int (gI S (36 + (x3).toNatClampNeg) 0)] (mk c S) from ?_))))
        refine J.cne (tgt := 42) d_T_isTaken_25 rfl (fun q4 => ?_) (fun q4 => ?_)
        · have H := ite_f H q4
          refine J.run b_T_isTaken_42_1 k_T_isTaken_42_1 rfl (show J w (d + 1) m_T_isTaken (n0, z0, some (.int z.1), mk c z.2) 45 [some (.ref 34), some (.int x1), some (.int x2), some (.int (x3 + (1 : Int32)))] [] (mk c S) from ?_)
          refine J.goto (tgt := 2) d_T_isTaken_45 rfl ?_
          refine J.mask [true, true, true, true] ?_
          exact ih S (x3 + (1 : Int32)) H
        · have H := ite_t H q4
          refine J.run b_T_isTaken_28_7 k_T_isTaken_28_7 rfl (And.intro (okO_st (S := S) rfl) (And.intro (okQ_st (S := S) (k := 23) (n := 12) rfl rfl g3) (And.intro (okA_row (S := S) (b := 36) (cnt := 12) (n := 2) rfl (inb_lt g3) rfl) (show J w (d + 1) m_T_isTaken (n0, z0, some (.int z.1), mk c z.2) 37 [some (.ref 34), some (.int x1), some (.int x2), some (.int x3)] [.int x2, .int (gI S (36 + (x3).toNatClampNeg) 1)] (mk c S) from ?_))))
          refine J.cne (tgt := 42) d_T_isTaken_37 rfl (fun q5 => ?_) (fun q5 => ?_)
          · have H := ite_f H q5
            refine J.run b_T_isTaken_42_1 k_T_isTaken_42_1 rfl (show J w (d + 1) m_T_isTaken (n0, z0, some (.int z.1), mk c z.2) 45 [some (.ref 34), some (.int x1), some (.int x2), some (.int (x3 + (1 : Int32)))] [] (mk c S) from ?_)
            refine J.goto (tgt := 2) d_T_isTaken_45 rfl ?_
            refine J.mask [true, true, true, true] ?_
            exact ih S (x3 + (1 : Int32)) H
          · have H := ite_t H q5
            refine J.run b_T_isTaken_40_1 k_T_isTaken_40_1 rfl (show J w (d + 1) m_T_isTaken (n0, z0, some (.int z.1), mk c z.2) 41 [some (.ref 34), some (.int x1), some (.int x2), some (.int x3)] [.int (1 : Int32)] (mk c S) from ?_)
            obtain rfl := some_e H
            exact J.nret d_T_isTaken_41 rfl rfl rfl
theorem c_T_isTaken (w : Wd) (d : Nat) (c : cx)   (S : hs) (x1 : Int32) (x2 : Int32)  {z : Int32 × hs} (H : f_T_isTaken S x1 x2 = some z) : Cl w (d + 1) m_T_isTaken [.ref 34, .int x1, .int x2] (mk c S) (some (.int z.1)) (mk c z.2) := by
  refine Cl.of (Nat.le_refl _) (Nat.le_refl _) (by decide +kernel) (Nat.le_of_ble_eq_true rfl) ?_
  unfold f_T_isTaken at H
  generalize hN (mk c S) = n0
  generalize hZ (mk c S) = z0
  show J w (d + 1) m_T_isTaken (n0, z0, some (.int z.1), mk c z.2) 0 [some (.ref 34), some (.int x1), some (.int x2), none] [] (mk c S)
  refine J.run b_T_isTaken_0_2 k_T_isTaken_0_2 rfl (show J w (d + 1) m_T_isTaken (n0, z0, some (.int z.1), mk c z.2) 2 [some (.ref 34), some (.int x1), some (.int x2), some (.int (0 : Int32))] [] (mk c S) from ?_)
  refine J.mask [true, true, true, true] ?_
  refine lo_T_isTaken_2 w d c x1 x2  1000 S (0 : Int32) H
def b_T_addCrossing_0_5 : List Ins := [(.aload_n 0, 0, 0, 0), (.getfield 33, 1, 5, 0), (.istore_n 3, 0, 0, 0), (.iload_n 3, 0, 0, 0), (.bipush (12), 0, 0, 0)]
theorem k_T_addCrossing_0_5 : bok m_T_addCrossing 0 b_T_addCrossing_0_5 = true := by decide +kernel
def b_T_addCrossing_14_21 : List Ins := [(.aload_n 0, 0, 0, 0), (.getfield 11, 1, 0, 2), (.iload_n 3, 0, 0, 0), (.aaload, 0, 0, 0), (.iconst (0), 0, 0, 0), (.iload_n 1, 0, 0, 0), (.iastore, 0, 0, 0), (.aload_n 0, 0, 0, 0), (.getfield 11, 1, 0, 2), (.iload_n 3, 0, 0, 0), (.aaload, 0, 0, 0), (.iconst (1), 0, 0, 0), (.iload_n 2, 0, 0, 0), (.iastore, 0, 0, 0), (.aload_n 0, 0, 0, 0), (.dup, 0, 0, 0), (.getfield 33, 1, 5, 0), (.iconst (1), 0, 0, 0), (.iadd, 0, 0, 0), (.putfield 33, 1, 5, 0), (.iload_n 3, 0, 0, 0)]
theorem k_T_addCrossing_14_21 : bok m_T_addCrossing 14 b_T_addCrossing_14_21 = true := by decide +kernel
def b_T_addCrossing_11_1 : List Ins := [(.bipush (-2), 0, 0, 0)]
theorem k_T_addCrossing_11_1 : bok m_T_addCrossing 11 b_T_addCrossing_11_1 = true := by decide +kernel
theorem d_T_addCrossing_8 : decode m_T_addCrossing.2.1 8 = .ok (.if_icmp .lt (6), 3) := by decide +kernel
theorem d_T_addCrossing_43 : decode m_T_addCrossing.2.1 43 = .ok (.ireturn, 1) := by decide +kernel
theorem d_T_addCrossing_13 : decode m_T_addCrossing.2.1 13 = .ok (.ireturn, 1) := by decide +kernel
def f_T_addCrossing  (S : hs) (x1 : Int32) (x2 : Int32) : Option (Int32 × hs) := (if (gI S 34 5) < (12 : Int32) then ck (inb (gI S 34 5) 12) (some ((gI S 34 5), (uI (uI (uI S (36 + ((gI S 34 5)).toNatClampNeg) 0 x1) (36 + ((gI S 34 5)).toNatClampNeg) 1 x2) 34 5 ((gI (uI (uI S (36 + ((gI S 34 5)).toNatClampNeg) 0 x1) (36 + ((gI S 34 5)).toNatClampNeg) 1 x2) 34 5) + (1 : Int32))))) else some ((-2 : Int32), S))
theorem c_T_addCrossing (w : Wd) (d : Nat) (c : cx)   (S : hs) (x1 : Int32) (x2 : Int32)  {z : Int32 × hs} (H : f_T_addCrossing S x1 x2 = some z) : Cl w (d + 1) m_T_addCrossing [.ref 34, .int x1, .int x2] (mk c S) (some (.int z.1)) (mk c z.2) := by
  refine Cl.of (Nat.le_refl _) (Nat.le_refl _) (by decide +kernel) (Nat.le_of_ble_eq_true rfl) ?_
  unfold f_T_addCrossing at H
  generalize hN (mk c S) = n0
  generalize hZ (mk c S) = z0
  show J w (d + 1) m_T_addCrossing (n0, z0, some (.int z.1), mk c z.2) 0 [some (.ref 34), some (.int x1), some (.int x2), none] [] (mk c S)
  refine J.run b_T_addCrossing_0_5 k_T_addCrossing_0_5 rfl (And.intro (okO_st (S := S) rfl) (show J w (d + 1) m_T_addCrossing (n0, z0, some (.int z.1), mk c z.2) 8 [some (.ref 34), some (.int x1), some (.int x2), some (.int (gI S 34 5))] [.int (12 : Int32), .int (gI S 34 5)] (mk c S) from ?_))
  refine J.clt (tgt := 14) d_T_addCrossing_8 rfl (fun q1 => ?_) (fun q1 => ?_)
  · have H := ite_t H q1
    obtain ⟨g2, H⟩ := ck_e H
    refine J.run b_T_addCrossing_14_21 k_T_addCrossing_14_21 rfl (And.intro (okO_st (S := S) rfl) (And.intro (okQ_st (S := S) (k := 23) (n := 12) rfl rfl g2) (And.intro (okB_row (S := S) (b := 36) (cnt := 12) (n := 2) rfl (inb_lt g2) rfl) (And.intro (okO_st (S := (uI S (36 + ((gI S 34 5)).toNatClampNeg) 0 x1)) rfl) (And.intro (okQ_st (S := (uI S (36 + ((gI S 34 5)).toNatClampNeg) 0 x1)) (k := 23) (n := 12) rfl rfl g2) (And.intro (okB_row (S := (uI S (36 + ((gI S 34 5)).toNatClampNeg) 0 x1)) (b := 36) (cnt := 12) (n := 2) rfl (inb_lt g2) rfl) (And.intro (okO_st (S := (uI (uI S (36 + ((gI S 34 5)).toNatClampNeg) 0 x1) (36 + ((gI S 34 5)).toNatClampNeg) 1 x2)) rfl) (And.intro (okO_st (S := (uI (uI S (36 + ((gI S 34 5)).toNatClampNeg) 0 x1) (36 + ((gI S 34 5)).toNatClampNeg) 1 x2)) rfl) (show J w (d + 1) m_T_addCrossing (n0, z0, some (.int z.1), mk c z.2) 43 [some (.ref 34), some (.int x1), some (.int x2), some (.int (gI S 34 5))] [.int (gI S 34 5)] (mk c (uI (uI (uI S (36 + ((gI S 34 5)).toNatClampNeg) 0 x1) (36 + ((gI S 34 5)).toNatClampNeg) 1 x2) 34 5 ((gI (uI (uI S (36 + ((gI S 34 5)).toNatClampNeg) 0 x1) (36 + ((gI S 34 5)).toNatClampNeg) 1 x2) 34 5) + (1 : Int32)))) from ?_)))))))))
    obtain rfl := some_e H
    exact J.iret d_T_addCrossing_43 rfl rfl
  · have H := ite_f H q1
    refine J.run b_T_addCrossing_11_1 k_T_addCrossing_11_1 rfl (show J w (d + 1) m_T_addCrossing (n0, z0, some (.int z.1), mk c z.2) 13 [some (.ref 34), some (.int x1), some (.int x2), some (.int (gI S 34 5))] [.int (-2 : Int32)] (mk c S) from ?_)
    obtain rfl := some_e H
    exact J.iret d_T_addCrossing_13 rfl rfl
def b_T_hasCrossing_0_1 : List Ins := [(.iload_n 1, 0, 0, 0)]
theorem k_T_hasCrossing_0_1 : bok m_T_hasCrossing 0 b_T_hasCrossing_0_1 = true := by decide +kernel
def b_T_hasCrossing_22_1 : List Ins := [(.iconst (0), 0, 0, 0)]
theorem k_T_hasCrossing_22_1 : bok m_T_hasCrossing 22 b_T_hasCrossing_22_1 = true := by decide +kernel
def b_T_hasCrossing_4_3 : List Ins := [(.iload_n 1, 0, 0, 0), (.aload_n 0, 0, 0, 0), (.getfield 33, 1, 5, 0)]
theorem k_T_hasCrossing_4_3 : bok m_T_hasCrossing 4 b_T_hasCrossing_4_3 = true := by decide +kernel
def b_T_hasCrossing_12_2 : List Ins := [(.iload_n 1, 0, 0, 0), (.bipush (12), 0, 0, 0)]
theorem k_T_hasCrossing_12_2 : bok m_T_hasCrossing 12 b_T_hasCrossing_12_2 = true := by decide +kernel
def b_T_hasCrossing_18_1 : List Ins := [(.iconst (1), 0, 0, 0)]
theorem k_T_hasCrossing_18_1 : bok m_T_hasCrossing 18 b_T_hasCrossing_18_1 = true := by decide +kernel
theorem d_T_hasCrossing_1 : decode m_T_hasCrossing.2.1 1 = .ok (.ifCond .lt (21), 3) := by decide +kernel
theorem d_T_hasCrossing_23 : decode m_T_hasCrossing.2.1 23 = .ok (.ireturn, 1) := by decide +kernel
theorem d_T_hasCrossing_9 : decode m_T_hasCrossing.2.1 9 = .ok (.if_icmp .ge (13), 3) := by decide +kernel
theorem d_T_hasCrossing_15 : decode m_T_hasCrossing.2.1 15 = .ok (.if_icmp .ge (7), 3) := by decide +kernel
theorem d_T_hasCrossing_19 : decode m_T_hasCrossing.2.1 19 = .ok (.goto (4), 3) := by decide +kernel
def f_T_hasCrossing  (S : hs) (x1 : Int32) : Option (Int32 × hs) := (if x1 < 0 then some ((0 : Int32), S) else (if (gI S 34 5) ≤ x1 then some ((0 : Int32), S) else (if (12 : Int32) ≤ x1 then some ((0 : Int32), S) else some ((1 : Int32), S))))
theorem c_T_hasCrossing (w : Wd) (d : Nat) (c : cx)   (S : hs) (x1 : Int32)  {z : Int32 × hs} (H : f_T_hasCrossing S x1 = some z) : Cl w (d + 1) m_T_hasCrossing [.ref 34, .int x1] (mk c S) (some (.int z.1)) (mk c z.2) := by
  refine Cl.of (Nat.le_refl _) (Nat.le_refl _) (by decide +kernel) (Nat.le_of_ble_eq_true rfl) ?_
  unfold f_T_hasCrossing at H
  generalize hN (mk c S) = n0
  generalize hZ (mk c S) = z0
  show J w (d + 1) m_T_hasCrossing (n0, z0, some (.int z.1), mk c z.2) 0 [some (.ref 34), some (.int x1)] [] (mk c S)
  refine J.run b_T_hasCrossing_0_1 k_T_hasCrossing_0_1 rfl (show J w (d + 1) m_T_hasCrossing (n0, z0, some (.int z.1), mk c z.2) 1 [some (.ref 34), some (.int x1)] [.int x1] (mk c S) from ?_)
  refine J.zlt (tgt := 22) d_T_hasCrossing_1 rfl (fun q1 => ?_) (fun q1 => ?_)
  · have H := ite_t H q1
    refine J.run b_T_hasCrossing_22_1 k_T_hasCrossing_22_1 rfl (show J w (d + 1) m_T_hasCrossing (n0, z0, some (.int z.1), mk c z.2) 23 [some (.ref 34), some (.int x1)] [.int (0 : Int32)] (mk c S) from ?_)
    obtain rfl := some_e H
    exact J.nret d_T_hasCrossing_23 rfl rfl rfl
  · have H := ite_f H q1
    refine J.run b_T_hasCrossing_4_3 k_T_hasCrossing_4_3 rfl (And.intro (okO_st (S := S) rfl) (show J w (d + 1) m_T_hasCrossing (n0, z0, some (.int z.1), mk c z.2) 9 [some (.ref 34), some (.int x1)] [.int (gI S 34 5), .int x1] (mk c S) from ?_))
    refine J.cge (tgt := 22) d_T_hasCrossing_9 rfl (fun q2 => ?_) (fun q2 => ?_)
    · have H := ite_t H q2
      refine J.run b_T_hasCrossing_22_1 k_T_hasCrossing_22_1 rfl (show J w (d + 1) m_T_hasCrossing (n0, z0, some (.int z.1), mk c z.2) 23 [some (.ref 34), some (.int x1)] [.int (0 : Int32)] (mk c S) from ?_)
      obtain rfl := some_e H
      exact J.nret d_T_hasCrossing_23 rfl rfl rfl
    · have H := ite_f H q2
      refine J.run b_T_hasCrossing_12_2 k_T_hasCrossing_12_2 rfl (show J w (d + 1) m_T_hasCrossing (n0, z0, some (.int z.1), mk c z.2) 15 [some (.ref 34), some (.int x1)] [.int (12 : Int32), .int x1] (mk c S) from ?_)
      refine J.cge (tgt := 22) d_T_hasCrossing_15 rfl (fun q3 => ?_) (fun q3 => ?_)
      · have H := ite_t H q3
        refine J.run b_T_hasCrossing_22_1 k_T_hasCrossing_22_1 rfl (show J w (d + 1) m_T_hasCrossing (n0, z0, some (.int z.1), mk c z.2) 23 [some (.ref 34), some (.int x1)] [.int (0 : Int32)] (mk c S) from ?_)
        obtain rfl := some_e H
        exact J.nret d_T_hasCrossing_23 rfl rfl rfl
      · have H := ite_f H q3
        refine J.run b_T_hasCrossing_18_1 k_T_hasCrossing_18_1 rfl (show J w (d + 1) m_T_hasCrossing (n0, z0, some (.int z.1), mk c z.2) 19 [some (.ref 34), some (.int x1)] [.int (1 : Int32)] (mk c S) from ?_)
        refine J.goto (tgt := 23) d_T_hasCrossing_19 rfl ?_
        obtain rfl := some_e H
        exact J.nret d_T_hasCrossing_23 rfl rfl rfl
def b_T_hasStreet_0_1 : List Ins := [(.iload_n 1, 0, 0, 0)]
theorem k_T_hasStreet_0_1 : bok m_T_hasStreet 0 b_T_hasStreet_0_1 = true := by decide +kernel
def b_T_hasStreet_22_1 : List Ins := [(.iconst (0), 0, 0, 0)]
theorem k_T_hasStreet_22_1 : bok m_T_hasStreet 22 b_T_hasStreet_22_1 = true := by decide +kernel
def b_T_hasStreet_4_3 : List Ins := [(.iload_n 1, 0, 0, 0), (.aload_n 0, 0, 0, 0), (.getfield 37, 1, 6, 0)]
theorem k_T_hasStreet_4_3 : bok m_T_hasStreet 4 b_T_hasStreet_4_3 = true := by decide +kernel
def b_T_hasStreet_12_2 : List Ins := [(.iload_n 1, 0, 0, 0), (.bipush (20), 0, 0, 0)]
theorem k_T_hasStreet_12_2 : bok m_T_hasStreet 12 b_T_hasStreet_12_2 = true := by decide +kernel
def b_T_hasStreet_18_1 : List Ins := [(.iconst (1), 0, 0, 0)]
theorem k_T_hasStreet_18_1 : bok m_T_hasStreet 18 b_T_hasStreet_18_1 = true := by decide +kernel
theorem d_T_hasStreet_1 : decode m_T_hasStreet.2.1 1 = .ok (.ifCond .lt (21), 3) := by decide +kernel
theorem d_T_hasStreet_23 : decode m_T_hasStreet.2.1 23 = .ok (.ireturn, 1) := by decide +kernel
theorem d_T_hasStreet_9 : decode m_T_hasStreet.2.1 9 = .ok (.if_icmp .ge (13), 3) := by decide +kernel
theorem d_T_hasStreet_15 : decode m_T_hasStreet.2.1 15 = .ok (.if_icmp .ge (7), 3) := by decide +kernel
theorem d_T_hasStreet_19 : decode m_T_hasStreet.2.1 19 = .ok (.goto (4), 3) := by decide +kernel
def f_T_hasStreet  (S : hs) (x1 : Int32) : Option (Int32 × hs) := (if x1 < 0 then some ((0 : Int32), S) else (if (gI S 34 6) ≤ x1 then some ((0 : Int32), S) else (if (20 : Int32) ≤ x1 then some ((0 : Int32), S) else some ((1 : Int32), S))))
theorem c_T_hasStreet (w : Wd) (d : Nat) (c : cx)   (S : hs) (x1 : Int32)  {z : Int32 × hs} (H : f_T_hasStreet S x1 = some z) : Cl w (d + 1) m_T_hasStreet [.ref 34, .int x1] (mk c S) (some (.int z.1)) (mk c z.2) := by
  refine Cl.of (Nat.le_refl _) (Nat.le_refl _) (by decide +kernel) (Nat.le_of_ble_eq_true rfl) ?_
  unfold f_T_hasStreet at H
  generalize hN (mk c S) = n0
  generalize hZ (mk c S) = z0
  show J w (d + 1) m_T_hasStreet (n0, z0, some (.int z.1), mk c z.2) 0 [some (.ref 34), some (.int x1)] [] (mk c S)
  refine J.run b_T_hasStreet_0_1 k_T_hasStreet_0_1 rfl (show J w (d + 1) m_T_hasStreet (n0, z0, some (.int z.1), mk c z.2) 1 [some (.ref 34), some (.int x1)] [.int x1] (mk c S) from ?_)
  refine J.zlt (tgt := 22) d_T_hasStreet_1 rfl (fun q1 => ?_) (fun q1 => ?_)
  · have H := ite_t H q1
    refine J.run b_T_hasStreet_22_1 k_T_hasStreet_22_1 rfl (show J w (d + 1) m_T_hasStreet (n0, z0, some (.int z.1), mk c z.2) 23 [some (.ref 34), some (.int x1)] [.int (0 : Int32)] (mk c S) from ?_)
    obtain rfl := some_e H
    exact J.nret d_T_hasStreet_23 rfl rfl rfl
  · have H := ite_f H q1
    refine J.run b_T_hasStreet_4_3 k_T_hasStreet_4_3 rfl (And.intro (okO_st (S := S) rfl) (show J w (d + 1) m_T_hasStreet (n0, z0, some (.int z.1), mk c z.2) 9 [some (.ref 34), some (.int x1)] [.int (gI S 34 6), .int x1] (mk c S) from ?_))
    refine J.cge (tgt := 22) d_T_hasStreet_9 rfl (fun q2 => ?_) (fun q2 => ?_)
    · have H := ite_t H q2
      refine J.run b_T_hasStreet_22_1 k_T_hasStreet_22_1 rfl (show J w (d + 1) m_T_hasStreet (n0, z0, some (.int z.1), mk c z.2) 23 [some (.ref 34), some (.int x1)] [.int (0 : Int32)] (mk c S) from ?_)
      obtain rfl := some_e H
      exact J.nret d_T_hasStreet_23 rfl rfl rfl
    · have H := ite_f H q2
      refine J.run b_T_hasStreet_12_2 k_T_hasStreet_12_2 rfl (show J w (d + 1) m_T_hasStreet (n0, z0, some (.int z.1), mk c z.2) 15 [some (.ref 34), some (.int x1)] [.int (20 : Int32), .int x1] (mk c S) from ?_)
      refine J.cge (tgt := 22) d_T_hasStreet_15 rfl (fun q3 => ?_) (fun q3 => ?_)
      · have H := ite_t H q3
        refine J.run b_T_hasStreet_22_1 k_T_hasStreet_22_1 rfl (show J w (d + 1) m_T_hasStreet (n0, z0, some (.int z.1), mk c z.2) 23 [some (.ref 34), some (.int x1)] [.int (0 : Int32)] (mk c S) from ?_)
        obtain rfl := some_e H
        exact J.nret d_T_hasStreet_23 rfl rfl rfl
      · have H := ite_f H q3
        refine J.run b_T_hasStreet_18_1 k_T_hasStreet_18_1 rfl (show J w (d + 1) m_T_hasStreet (n0, z0, some (.int z.1), mk c z.2) 19 [some (.ref 34), some (.int x1)] [.int (1 : Int32)] (mk c S) from ?_)
        refine J.goto (tgt := 23) d_T_hasStreet_19 rfl ?_
        obtain rfl := some_e H
        exact J.nret d_T_hasStreet_23 rfl rfl rfl
def b_T_hasWay_0_6 : List Ins := [(.iload_n 1, 0, 0, 0), (.iconst (1), 0, 0, 0), (.ishr, 0, 0, 0), (.istore_n 2, 0, 0, 0), (.aload_n 0, 0, 0, 0), (.iload_n 2, 0, 0, 0)]
theorem k_T_hasWay_0_6 : bok m_T_hasWay 0 b_T_hasWay_0_6 = true := by decide +kernel
def b_T_hasWay_33_1 : List Ins := [(.iconst (0), 0, 0, 0)]
theorem k_T_hasWay_33_1 : bok m_T_hasWay 33 b_T_hasWay_33_1 = true := by decide +kernel
def b_T_hasWay_12_3 : List Ins := [(.iload_n 1, 0, 0, 0), (.iconst (1), 0, 0, 0), (.iand, 0, 0, 0)]
theorem k_T_hasWay_12_3 : bok m_T_hasWay 12 b_T_hasWay_12_3 = true := by decide +kernel
def b_T_hasWay_29_1 : List Ins := [(.iconst (1), 0, 0, 0)]
theorem k_T_hasWay_29_1 : bok m_T_hasWay 29 b_T_hasWay_29_1 = true := by decide +kernel
def b_T_hasWay_18_6 : List Ins := [(.aload_n 0, 0, 0, 0), (.getfield 16, 1, 1, 2), (.iload_n 2, 0, 0, 0), (.aaload, 0, 0, 0), (.iconst (3), 0, 0, 0), (.iaload, 0, 0, 0)]
theorem k_T_hasWay_18_6 : bok m_T_hasWay 18 b_T_hasWay_18_6 = true := by decide +kernel
theorem d_T_hasWay_6 : decode m_T_hasWay.2.1 6 = .ok (.invokevirtual 43, 3) := by decide +kernel
theorem d_T_hasWay_9 : decode m_T_hasWay.2.1 9 = .ok (.ifCond .eq (24), 3) := by decide +kernel
theorem d_T_hasWay_34 : decode m_T_hasWay.2.1 34 = .ok (.ireturn, 1) := by decide +kernel
theorem d_T_hasWay_15 : decode m_T_hasWay.2.1 15 = .ok (.ifCond .eq (14), 3) := by decide +kernel
theorem d_T_hasWay_30 : decode m_T_hasWay.2.1 30 = .ok (.goto (4), 3) := by decide +kernel
theorem d_T_hasWay_26 : decode m_T_hasWay.2.1 26 = .ok (.ifCond .ne (7), 3) := by decide +kernel
def f_T_hasWay  (S : hs) (x1 : Int32) : Option (Int32 × hs) := bd (f_T_hasStreet  S (x1 >>> ((1 : Int32) &&& 31))) fun r1 S2 => (if r1 = 0 then some ((0 : Int32), S2) else (if (x1 &&& (1 : Int32)) = 0 then some ((1 : Int32), S2) else ck (inb (x1 >>> ((1 : Int32) &&& 31)) 20) ((if (gI S2 (49 + ((x1 >>> ((1 : Int32) &&& 31))).toNatClampNeg) 3) = 0 then some ((1 : Int32), S2) else some ((0 : Int32), S2)))))
theorem c_T_hasWay (w : Wd) (d : Nat) (c : cx)   (S : hs) (x1 : Int32)  {z : Int32 × hs} (H : f_T_hasWay S x1 = some z) : Cl w (d + 2) m_T_hasWay [.ref 34, .int x1] (mk c S) (some (.int z.1)) (mk c z.2) := by
  refine Cl.of (Nat.le_refl _) (Nat.le_refl _) (by decide +kernel) (Nat.le_of_ble_eq_true rfl) ?_
  unfold f_T_hasWay at H
  generalize hN (mk c S) = n0
  generalize hZ (mk c S) = z0
  show J w (d + 2) m_T_hasWay (n0, z0, some (.int z.1), mk c z.2) 0 [some (.ref 34), some (.int x1), none] [] (mk c S)
  refine J.run b_T_hasWay_0_6 k_T_hasWay_0_6 rfl (show J w (d + 2) m_T_hasWay (n0, z0, some (.int z.1), mk c z.2) 6 [some (.ref 34), some (.int x1), some (.int (x1 >>> ((1 : Int32) &&& 31)))] [.int (x1 >>> ((1 : Int32) &&& 31)), .ref 34] (mk c S) from ?_)
  obtain ⟨r1, S2, h3, H⟩ := bd_e H
  refine J.callV (y := m_T_hasStreet) (av := [.int (x1 >>> ((1 : Int32) &&& 31))]) (rest := []) (q := 34) l_T_43 d_T_hasWay_6 (isC_st rfl rfl) (c_T_hasStreet w (d + 0) c  S (x1 >>> ((1 : Int32) &&& 31)) h3) rfl (Nat.le_of_ble_eq_true rfl) ⟨Nat.le_refl _, Nat.le_refl _⟩ (show J w (d + 2) m_T_hasWay (n0, z0, some (.int z.1), mk c z.2) 9 [some (.ref 34), some (.int x1), some (.int (x1 >>> ((1 : Int32) &&& 31)))] [.int r1] (mk c S2) from ?_)
  refine J.zeq (tgt := 33) d_T_hasWay_9 rfl (fun q4 => ?_) (fun q4 => ?_)
  · have H := ite_t H q4
    refine J.run b_T_hasWay_33_1 k_T_hasWay_33_1 rfl (show J w (d + 2) m_T_hasWay (n0, z0, some (.int z.1), mk c z.2) 34 [some (.ref 34), some (.int x1), some (.int (x1 >>> ((1 : Int32) &&& 31)))] [.int (0 : Int32)] (mk c S2) from ?_)
    obtain rfl := some_e H
    exact J.nret d_T_hasWay_34 rfl rfl rfl
  · have H := ite_f H q4
    refine J.run b_T_hasWay_12_3 k_T_hasWay_12_3 rfl (show J w (d + 2) m_T_hasWay (n0, z0, some (.int z.1), mk c z.2) 15 [some (.ref 34), some (.int x1), some (.int (x1 >>> ((1 : Int32) &&& 31)))] [.int (x1 &&& (1 : Int32))] (mk c S2) from ?_)
    refine J.zeq (tgt := 29) d_T_hasWay_15 rfl (fun q5 => ?_) (fun q5 => ?_)
    · have H := ite_t H q5
      refine J.run b_T_hasWay_29_1 k_T_hasWay_29_1 rfl (show J w (d + 2) m_T_hasWay (n0, z0, some (.int z.1), mk c z.2) 30 [some (.ref 34), some (.int x1), some (.int (x1 >>> ((1 : Int32) &&& 31)))] [.int (1 : Int32)] (mk c S2) from ?_)
      refine J.goto (tgt := 34) d_T_hasWay_30 rfl ?_
      obtain rfl := some_e H
      exact J.nret d_T_hasWay_34 rfl rfl rfl
    · have H := ite_f H q5
      obtain ⟨g6, H⟩ := ck_e H
      refine J.run b_T_hasWay_18_6 k_T_hasWay_18_6 rfl (And.intro (okO_st (S := S2) rfl) (And.intro (okQ_st (S := S2) (k := 23) (n := 20) rfl rfl g6) (And.intro (okA_row (S := S2) (b := 49) (cnt := 20) (n := 8) rfl (inb_lt g6) rfl) (show J w (d + 2) m_T_hasWay (n0, z0, some (.int z.1), mk c z.2) 26 [some (.ref 34), some (.int x1), some (.int (x1 >>> ((1 : Int32) &&& 31)))] [.int (gI S2 (49 + ((x1 >>> ((1 : Int32) &&& 31))).toNatClampNeg) 3)] (mk c S2) from ?_))))
      refine J.zne (tgt := 33) d_T_hasWay_26 rfl (fun q7 => ?_) (fun q7 => ?_)
      · have H := ite_f H q7
        refine J.run b_T_hasWay_33_1 k_T_hasWay_33_1 rfl (show J w (d + 2) m_T_hasWay (n0, z0, some (.int z.1), mk c z.2) 34 [some (.ref 34), some (.int x1), some (.int (x1 >>> ((1 : Int32) &&& 31)))] [.int (0 : Int32)] (mk c S2) from ?_)
        obtain rfl := some_e H
        exact J.nret d_T_hasWay_34 rfl rfl rfl
      · have H := ite_t H q7
        refine J.run b_T_hasWay_29_1 k_T_hasWay_29_1 rfl (show J w (d + 2) m_T_hasWay (n0, z0, some (.int z.1), mk c z.2) 30 [some (.ref 34), some (.int x1), some (.int (x1 >>> ((1 : Int32) &&& 31)))] [.int (1 : Int32)] (mk c S2) from ?_)
        refine J.goto (tgt := 34) d_T_hasWay_30 rfl ?_
        obtain rfl := some_e H
        exact J.nret d_T_hasWay_34 rfl rfl rfl
def b_T_hasCourse_0_2 : List Ins := [(.aload_n 0, 0, 0, 0), (.iload_n 1, 0, 0, 0)]
theorem k_T_hasCourse_0_2 : bok m_T_hasCourse 0 b_T_hasCourse_0_2 = true := by decide +kernel
def b_T_hasCourse_25_1 : List Ins := [(.iconst (0), 0, 0, 0)]
theorem k_T_hasCourse_25_1 : bok m_T_hasCourse 25 b_T_hasCourse_25_1 = true := by decide +kernel
def b_T_hasCourse_8_8 : List Ins := [(.aload_n 0, 0, 0, 0), (.getfield 16, 1, 1, 2), (.iload_n 1, 0, 0, 0), (.iconst (1), 0, 0, 0), (.ishr, 0, 0, 0), (.aaload, 0, 0, 0), (.iconst (5), 0, 0, 0), (.iaload, 0, 0, 0)]
theorem k_T_hasCourse_8_8 : bok m_T_hasCourse 8 b_T_hasCourse_8_8 = true := by decide +kernel
def b_T_hasCourse_21_1 : List Ins := [(.iconst (1), 0, 0, 0)]
theorem k_T_hasCourse_21_1 : bok m_T_hasCourse 21 b_T_hasCourse_21_1 = true := by decide +kernel
theorem d_T_hasCourse_2 : decode m_T_hasCourse.2.1 2 = .ok (.invokevirtual 47, 3) := by decide +kernel
theorem d_T_hasCourse_5 : decode m_T_hasCourse.2.1 5 = .ok (.ifCond .eq (20), 3) := by decide +kernel
theorem d_T_hasCourse_26 : decode m_T_hasCourse.2.1 26 = .ok (.ireturn, 1) := by decide +kernel
theorem d_T_hasCourse_18 : decode m_T_hasCourse.2.1 18 = .ok (.ifCond .ne (7), 3) := by decide +kernel
theorem d_T_hasCourse_22 : decode m_T_hasCourse.2.1 22 = .ok (.goto (4), 3) := by decide +kernel
def f_T_hasCourse  (S : hs) (x1 : Int32) : Option (Int32 × hs) := bd (f_T_hasWay  S x1) fun r1 S2 => (if r1 = 0 then some ((0 : Int32), S2) else ck (inb (x1 >>> ((1 : Int32) &&& 31)) 20) ((if (gI S2 (49 + ((x1 >>> ((1 : Int32) &&& 31))).toNatClampNeg) 5) = 0 then some ((1 : Int32), S2) else some ((0 : Int32), S2))))
theorem c_T_hasCourse (w : Wd) (d : Nat) (c : cx)   (S : hs) (x1 : Int32)  {z : Int32 × hs} (H : f_T_hasCourse S x1 = some z) : Cl w (d + 3) m_T_hasCourse [.ref 34, .int x1] (mk c S) (some (.int z.1)) (mk c z.2) := by
  refine Cl.of (Nat.le_refl _) (Nat.le_refl _) (by decide +kernel) (Nat.le_of_ble_eq_true rfl) ?_
  unfold f_T_hasCourse at H
  generalize hN (mk c S) = n0
  generalize hZ (mk c S) = z0
  show J w (d + 3) m_T_hasCourse (n0, z0, some (.int z.1), mk c z.2) 0 [some (.ref 34), some (.int x1)] [] (mk c S)
  refine J.run b_T_hasCourse_0_2 k_T_hasCourse_0_2 rfl (show J w (d + 3) m_T_hasCourse (n0, z0, some (.int z.1), mk c z.2) 2 [some (.ref 34), some (.int x1)] [.int x1, .ref 34] (mk c S) from ?_)
  obtain ⟨r1, S2, h3, H⟩ := bd_e H
  refine J.callV (y := m_T_hasWay) (av := [.int x1]) (rest := []) (q := 34) l_T_47 d_T_hasCourse_2 (isC_st rfl rfl) (c_T_hasWay w (d + 0) c  S x1 h3) rfl (Nat.le_of_ble_eq_true rfl) ⟨Nat.le_refl _, Nat.le_refl _⟩ (show J w (d + 3) m_T_hasCourse (n0, z0, some (.int z.1), mk c z.2) 5 [some (.ref 34), some (.int x1)] [.int r1] (mk c S2) from ?_)
  refine J.zeq (tgt := 25) d_T_hasCourse_5 rfl (fun q4 => ?_) (fun q4 => ?_)
  · have H := ite_t H q4
    refine J.run b_T_hasCourse_25_1 k_T_hasCourse_25_1 rfl (show J w (d + 3) m_T_hasCourse (n0, z0, some (.int z.1), mk c z.2) 26 [some (.ref 34), some (.int x1)] [.int (0 : Int32)] (mk c S2) from ?_)
    obtain rfl := some_e H
    exact J.nret d_T_hasCourse_26 rfl rfl rfl
  · have H := ite_f H q4
    obtain ⟨g5, H⟩ := ck_e H
    refine J.run b_T_hasCourse_8_8 k_T_hasCourse_8_8 rfl (And.intro (okO_st (S := S2) rfl) (And.intro (okQ_st (S := S2) (k := 23) (n := 20) rfl rfl g5) (And.intro (okA_row (S := S2) (b := 49) (cnt := 20) (n := 8) rfl (inb_lt g5) rfl) (show J w (d + 3) m_T_hasCourse (n0, z0, some (.int z.1), mk c z.2) 18 [some (.ref 34), some (.int x1)] [.int (gI S2 (49 + ((x1 >>> ((1 : Int32) &&& 31))).toNatClampNeg) 5)] (mk c S2) from ?_))))
    refine J.zne (tgt := 25) d_T_hasCourse_18 rfl (fun q6 => ?_) (fun q6 => ?_)
    · have H := ite_f H q6
      refine J.run b_T_hasCourse_25_1 k_T_hasCourse_25_1 rfl (show J w (d + 3) m_T_hasCourse (n0, z0, some (.int z.1), mk c z.2) 26 [some (.ref 34), some (.int x1)] [.int (0 : Int32)] (mk c S2) from ?_)
      obtain rfl := some_e H
      exact J.nret d_T_hasCourse_26 rfl rfl rfl
    · have H := ite_t H q6
      refine J.run b_T_hasCourse_21_1 k_T_hasCourse_21_1 rfl (show J w (d + 3) m_T_hasCourse (n0, z0, some (.int z.1), mk c z.2) 22 [some (.ref 34), some (.int x1)] [.int (1 : Int32)] (mk c S2) from ?_)
      refine J.goto (tgt := 26) d_T_hasCourse_22 rfl ?_
      obtain rfl := some_e H
      exact J.nret d_T_hasCourse_26 rfl rfl rfl
def b_T_beginOf_0_6 : List Ins := [(.iload_n 1, 0, 0, 0), (.iconst (1), 0, 0, 0), (.ishr, 0, 0, 0), (.istore_n 2, 0, 0, 0), (.aload_n 0, 0, 0, 0), (.iload_n 2, 0, 0, 0)]
theorem k_T_beginOf_0_6 : bok m_T_beginOf 0 b_T_beginOf_0_6 = true := by decide +kernel
def b_T_beginOf_33_1 : List Ins := [(.iconst (-1), 0, 0, 0)]
theorem k_T_beginOf_33_1 : bok m_T_beginOf 33 b_T_beginOf_33_1 = true := by decide +kernel
def b_T_beginOf_12_7 : List Ins := [(.aload_n 0, 0, 0, 0), (.getfield 16, 1, 1, 2), (.iload_n 2, 0, 0, 0), (.aaload, 0, 0, 0), (.iload_n 1, 0, 0, 0), (.iconst (1), 0, 0, 0), (.iand, 0, 0, 0)]
theorem k_T_beginOf_12_7 : bok m_T_beginOf 12 b_T_beginOf_12_7 = true := by decide +kernel
def b_T_beginOf_28_2 : List Ins := [(.iconst (1), 0, 0, 0), (.iaload, 0, 0, 0)]
theorem k_T_beginOf_28_2 : bok m_T_beginOf 28 b_T_beginOf_28_2 = true := by decide +kernel
def b_T_beginOf_24_1 : List Ins := [(.iconst (0), 0, 0, 0)]
theorem k_T_beginOf_24_1 : bok m_T_beginOf 24 b_T_beginOf_24_1 = true := by decide +kernel
def b_T_beginOf_29_1 : List Ins := [(.iaload, 0, 0, 0)]
theorem k_T_beginOf_29_1 : bok m_T_beginOf 29 b_T_beginOf_29_1 = true := by decide +kernel
theorem d_T_beginOf_6 : decode m_T_beginOf.2.1 6 = .ok (.invokevirtual 43, 3) := by decide +kernel
theorem d_T_beginOf_9 : decode m_T_beginOf.2.1 9 = .ok (.ifCond .eq (24), 3) := by decide +kernel
theorem d_T_beginOf_34 : decode m_T_beginOf.2.1 34 = .ok (.ireturn, 1) := by decide +kernel
theorem d_T_beginOf_21 : decode m_T_beginOf.2.1 21 = .ok (.ifCond .ne (7), 3) := by decide +kernel
theorem d_T_beginOf_30 : decode m_T_beginOf.2.1 30 = .ok (.goto (4), 3) := by decide +kernel
theorem d_T_beginOf_25 : decode m_T_beginOf.2.1 25 = .ok (.goto (4), 3) := by decide +kernel
def f_T_beginOf  (S : hs) (x1 : Int32) : Option (Int32 × hs) := bd (f_T_hasStreet  S (x1 >>> ((1 : Int32) &&& 31))) fun r1 S2 => (if r1 = 0 then some ((-1 : Int32), S2) else ck (inb (x1 >>> ((1 : Int32) &&& 31)) 20) ((if (x1 &&& (1 : Int32)) = 0 then some ((gI S2 (49 + ((x1 >>> ((1 : Int32) &&& 31))).toNatClampNeg) 0), S2) else some ((gI S2 (49 + ((x1 >>> ((1 : Int32) &&& 31))).toNatClampNeg) 1), S2))))
theorem c_T_beginOf (w : Wd) (d : Nat) (c : cx)   (S : hs) (x1 : Int32)  {z : Int32 × hs} (H : f_T_beginOf S x1 = some z) : Cl w (d + 2) m_T_beginOf [.ref 34, .int x1] (mk c S) (some (.int z.1)) (mk c z.2) := by
  refine Cl.of (Nat.le_refl _) (Nat.le_refl _) (by decide +kernel) (Nat.le_of_ble_eq_true rfl) ?_
  unfold f_T_beginOf at H
  generalize hN (mk c S) = n0
  generalize hZ (mk c S) = z0
  show J w (d + 2) m_T_beginOf (n0, z0, some (.int z.1), mk c z.2) 0 [some (.ref 34), some (.int x1), none] [] (mk c S)
  refine J.run b_T_beginOf_0_6 k_T_beginOf_0_6 rfl (show J w (d + 2) m_T_beginOf (n0, z0, some (.int z.1), mk c z.2) 6 [some (.ref 34), some (.int x1), some (.int (x1 >>> ((1 : Int32) &&& 31)))] [.int (x1 >>> ((1 : Int32) &&& 31)), .ref 34] (mk c S) from ?_)
  obtain ⟨r1, S2, h3, H⟩ := bd_e H
  refine J.callV (y := m_T_hasStreet) (av := [.int (x1 >>> ((1 : Int32) &&& 31))]) (rest := []) (q := 34) l_T_43 d_T_beginOf_6 (isC_st rfl rfl) (c_T_hasStreet w (d + 0) c  S (x1 >>> ((1 : Int32) &&& 31)) h3) rfl (Nat.le_of_ble_eq_true rfl) ⟨Nat.le_refl _, Nat.le_refl _⟩ (show J w (d + 2) m_T_beginOf (n0, z0, some (.int z.1), mk c z.2) 9 [some (.ref 34), some (.int x1), some (.int (x1 >>> ((1 : Int32) &&& 31)))] [.int r1] (mk c S2) from ?_)
  refine J.zeq (tgt := 33) d_T_beginOf_9 rfl (fun q4 => ?_) (fun q4 => ?_)
  · have H := ite_t H q4
    refine J.run b_T_beginOf_33_1 k_T_beginOf_33_1 rfl (show J w (d + 2) m_T_beginOf (n0, z0, some (.int z.1), mk c z.2) 34 [some (.ref 34), some (.int x1), some (.int (x1 >>> ((1 : Int32) &&& 31)))] [.int (-1 : Int32)] (mk c S2) from ?_)
    obtain rfl := some_e H
    exact J.iret d_T_beginOf_34 rfl rfl
  · have H := ite_f H q4
    obtain ⟨g5, H⟩ := ck_e H
    refine J.run b_T_beginOf_12_7 k_T_beginOf_12_7 rfl (And.intro (okO_st (S := S2) rfl) (And.intro (okQ_st (S := S2) (k := 23) (n := 20) rfl rfl g5) (show J w (d + 2) m_T_beginOf (n0, z0, some (.int z.1), mk c z.2) 21 [some (.ref 34), some (.int x1), some (.int (x1 >>> ((1 : Int32) &&& 31)))] [.int (x1 &&& (1 : Int32)), .ref (49 + ((x1 >>> ((1 : Int32) &&& 31))).toNatClampNeg)] (mk c S2) from ?_)))
    refine J.zne (tgt := 28) d_T_beginOf_21 rfl (fun q6 => ?_) (fun q6 => ?_)
    · have H := ite_f H q6
      refine J.run b_T_beginOf_28_2 k_T_beginOf_28_2 rfl (And.intro (okA_row (S := S2) (b := 49) (cnt := 20) (n := 8) rfl (inb_lt g5) rfl) (show J w (d + 2) m_T_beginOf (n0, z0, some (.int z.1), mk c z.2) 30 [some (.ref 34), some (.int x1), some (.int (x1 >>> ((1 : Int32) &&& 31)))] [.int (gI S2 (49 + ((x1 >>> ((1 : Int32) &&& 31))).toNatClampNeg) 1)] (mk c S2) from ?_))
      refine J.goto (tgt := 34) d_T_beginOf_30 rfl ?_
      obtain rfl := some_e H
      exact J.iret d_T_beginOf_34 rfl rfl
    · have H := ite_t H q6
      refine J.run b_T_beginOf_24_1 k_T_beginOf_24_1 rfl (show J w (d + 2) m_T_beginOf (n0, z0, some (.int z.1), mk c z.2) 25 [some (.ref 34), some (.int x1), some (.int (x1 >>> ((1 : Int32) &&& 31)))] [.int (0 : Int32), .ref (49 + ((x1 >>> ((1 : Int32) &&& 31))).toNatClampNeg)] (mk c S2) from ?_)
      refine J.goto (tgt := 29) d_T_beginOf_25 rfl ?_
      refine J.run b_T_beginOf_29_1 k_T_beginOf_29_1 rfl (And.intro (okA_row (S := S2) (b := 49) (cnt := 20) (n := 8) rfl (inb_lt g5) rfl) (show J w (d + 2) m_T_beginOf (n0, z0, some (.int z.1), mk c z.2) 30 [some (.ref 34), some (.int x1), some (.int (x1 >>> ((1 : Int32) &&& 31)))] [.int (gI S2 (49 + ((x1 >>> ((1 : Int32) &&& 31))).toNatClampNeg) 0)] (mk c S2) from ?_))
      refine J.goto (tgt := 34) d_T_beginOf_30 rfl ?_
      obtain rfl := some_e H
      exact J.iret d_T_beginOf_34 rfl rfl
def b_T_countBeginning_0_4 : List Ins := [(.iconst (0), 0, 0, 0), (.istore_n 2, 0, 0, 0), (.iconst (0), 0, 0, 0), (.istore_n 3, 0, 0, 0)]
theorem k_T_countBeginning_0_4 : bok m_T_countBeginning 0 b_T_countBeginning_0_4 = true := by decide +kernel
def b_T_countBeginning_4_2 : List Ins := [(.iload_n 3, 0, 0, 0), (.bipush (40), 0, 0, 0)]
theorem k_T_countBeginning_4_2 : bok m_T_countBeginning 4 b_T_countBeginning_4_2 = true := by decide +kernel
def b_T_countBeginning_41_1 : List Ins := [(.iload_n 2, 0, 0, 0)]
theorem k_T_countBeginning_41_1 : bok m_T_countBeginning 41 b_T_countBeginning_41_1 = true := by decide +kernel
def b_T_countBeginning_10_3 : List Ins := [(.iload_n 2, 0, 0, 0), (.aload_n 0, 0, 0, 0), (.iload_n 3, 0, 0, 0)]
theorem k_T_countBeginning_10_3 : bok m_T_countBeginning 10 b_T_countBeginning_10_3 = true := by decide +kernel
def b_T_countBeginning_32_4 : List Ins := [(.iconst (0), 0, 0, 0), (.iadd, 0, 0, 0), (.istore_n 2, 0, 0, 0), (.iinc 3 (1), 0, 0, 0)]
theorem k_T_countBeginning_32_4 : bok m_T_countBeginning 32 b_T_countBeginning_32_4 = true := by decide +kernel
def b_T_countBeginning_19_2 : List Ins := [(.aload_n 0, 0, 0, 0), (.iload_n 3, 0, 0, 0)]
theorem k_T_countBeginning_19_2 : bok m_T_countBeginning 19 b_T_countBeginning_19_2 = true := by decide +kernel
def b_T_countBeginning_24_1 : List Ins := [(.iload_n 1, 0, 0, 0)]
theorem k_T_countBeginning_24_1 : bok m_T_countBeginning 24 b_T_countBeginning_24_1 = true := by decide +kernel
def b_T_countBeginning_28_1 : List Ins := [(.iconst (1), 0, 0, 0)]
theorem k_T_countBeginning_28_1 : bok m_T_countBeginning 28 b_T_countBeginning_28_1 = true := by decide +kernel
def b_T_countBeginning_33_3 : List Ins := [(.iadd, 0, 0, 0), (.istore_n 2, 0, 0, 0), (.iinc 3 (1), 0, 0, 0)]
theorem k_T_countBeginning_33_3 : bok m_T_countBeginning 33 b_T_countBeginning_33_3 = true := by decide +kernel
theorem d_T_countBeginning_7 : decode m_T_countBeginning.2.1 7 = .ok (.if_icmp .ge (34), 3) := by decide +kernel
theorem d_T_countBeginning_42 : decode m_T_countBeginning.2.1 42 = .ok (.ireturn, 1) := by decide +kernel
theorem d_T_countBeginning_13 : decode m_T_countBeginning.2.1 13 = .ok (.invokevirtual 50, 3) := by decide +kernel
theorem d_T_countBeginning_16 : decode m_T_countBeginning.2.1 16 = .ok (.ifCond .eq (16), 3) := by decide +kernel
theorem d_T_countBeginning_38 : decode m_T_countBeginning.2.1 38 = .ok (.goto (-34), 3) := by decide +kernel
theorem d_T_countBeginning_21 : decode m_T_countBeginning.2.1 21 = .ok (.invokevirtual 65, 3) := by decide +kernel
theorem d_T_countBeginning_25 : decode m_T_countBeginning.2.1 25 = .ok (.if_icmp .ne (7), 3) := by decide +kernel
theorem d_T_countBeginning_29 : decode m_T_countBeginning.2.1 29 = .ok (.goto (4), 3) := by decide +kernel
def lp_T_countBeginning_4 (x1 : Int32)   : Nat → hs → Int32 → Int32 → Option (Int32 × hs)
  | 0, _, _, _ => none
  | n + 1, S, x2, x3 => (if (40 : Int32) ≤ x3 then some (x2, S) else bd (f_T_hasCourse  S x3) fun r2 S3 => (if r2 = 0 then lp_T_countBeginning_4 x1 n S3 (x2 + (0 : Int32)) (x3 + (1 : Int32)) else bd (f_T_beginOf  S3 x3) fun r6 S7 => (if r6 = x1 then lp_T_countBeginning_4 x1 n S7 (x2 + (1 : Int32)) (x3 + (1 : Int32)) else lp_T_countBeginning_4 x1 n S7 (x2 + (0 : Int32)) (x3 + (1 : Int32)))))
def f_T_countBeginning  (S : hs) (x1 : Int32) : Option (Int32 × hs) := lp_T_countBeginning_4 x1 1000 S (0 : Int32) (0 : Int32)
theorem lo_T_countBeginning_4 (w : Wd) (d : Nat) (c : cx) {n0 z0 : Nat} {z : Int32 × hs}   (x1 : Int32)    :
    ∀ (n : Nat) (S : hs) (x2 : Int32) (x3 : Int32), lp_T_countBeginning_4 x1 n S x2 x3 = some z → J w (d + 4) m_T_countBeginning (n0, z0, some (.int z.1), mk c z.2) 4 [some (.ref 34), some (.int x1), some (.int x2), some (.int x3)] [] (mk c S) := by
  intro n
  induction n with
  | zero => intro S x2 x3 H; cases H
  | succ n ih =>
    intro S x2 x3 H
    rw [lp_T_countBeginning_4] at H
    refine J.run b_T_countBeginning_4_2 k_T_countBeginning_4_2 rfl (show J w (d + 4) m_T_countBeginning (n0, z0, some (.int z.1), mk c z.2) 7 [some (.ref 34), some (.int x1), some (.int x2), some (.int x3)] [.int (40 : Int32), .int x3] (mk c S) from ?_)
    refine J.cge (tgt := 41) d_T_countBeginning_7 rfl (fun q1 => ?_) (fun q1 => ?_)
    · have H := ite_t H q1
      refine J.run b_T_countBeginning_41_1 k_T_countBeginning_41_1 rfl (show J w (d + 4) m_T_countBeginning (n0, z0, some (.int z.1), mk c z.2) 42 [some (.ref 34), some (.int x1), some (.int x2), some (.int x3)] [.int x2] (mk c S) from ?_)
      obtain rfl := some_e H
      exact J.iret d_T_countBeginning_42 rfl rfl
    · have H := ite_f H q1
      refine J.run b_T_countBeginning_10_3 k_T_countBeginning_10_3 rfl (show J w (d + 4) m_T_countBeginning (n0, z0, some (.int z.1), mk c z.2) 13 [some (.ref 34), some (.int x1), some (.int x2), some (.int x3)] [.int x3, .ref 34, .int x2] (mk c S) from ?_)
      obtain ⟨r2, S3, h4, H⟩ := bd_e H
      refine J.callV (y := m_T_hasCourse) (av := [.int x3]) (rest := [.int x2]) (q := 34) l_T_50 d_T_countBeginning_13 (isC_st rfl rfl) (c_T_hasCourse w (d + 0) c  S x3 h4) rfl (Nat.le_of_ble_eq_true rfl) ⟨Nat.le_refl _, Nat.le_refl _⟩ (show J w (d + 4) m_T_countBeginning (n0, z0, some (.int z.1), mk c z.2) 16 [some (.ref 34), some (.int x1), some (.int x2), some (.int x3)] [.int r2, .int x2] (mk c S3) from ?_)
      refine J.zeq (tgt := 32) d_T_countBeginning_16 rfl (fun q5 => ?_) (fun q5 => ?_)
      · have H := ite_t H q5
        refine J.run b_T_countBeginning_32_4 k_T_countBeginning_32_4 rfl (show J w (d + 4) m_T_countBeginning (n0, z0, some (.int z.1), mk c z.2) 38 [some (.ref 34), some (.int x1), some (.int (x2 + (0 : Int32))), some (.int (x3 + (1 : Int32)))] [] (mk c S3) from ?_)
        refine J.goto (tgt := 4) d_T_countBeginning_38 rfl ?_
        refine J.mask [true, true, true, true] ?_
        exact ih S3 (x2 + (0 : Int32)) (x3 + (1 : Int32)) H
      · have H := ite_f H q5
        refine J.run b_T_countBeginning_19_2 k_T_countBeginning_19_2 rfl (show J w (d + 4) m_T_countBeginning (n0, z0, some (.int z.1), mk c z.2) 21 [some (.ref 34), some (.int x1), some (.int x2), some (.int x3)] [.int x3, .ref 34, .int x2] (mk c S3) from ?_)
        obtain ⟨r6, S7, h8, H⟩ := bd_e H
        refine J.callV (y := m_T_beginOf) (av := [.int x3]) (rest := [.int x2]) (q := 34) l_T_65 d_T_countBeginning_21 (isC_st rfl rfl) (c_T_beginOf w (d + 1) c  S3 x3 h8) rfl (Nat.le_of_ble_eq_true rfl) ⟨Nat.le_refl _, Nat.le_refl _⟩ (show J w (d + 4) m_T_countBeginning (n0, z0, some (.int z.1), mk c z.2) 24 [some (.ref 34), some (.int x1), some (.int x2), some (.int x3)] [.int r6, .int x2] (mk c S7) from ?_)
        refine J.run b_T_countBeginning_24_1 k_T_countBeginning_24_1 rfl (show J w (d + 4) m_T_countBeginning (n0, z0, some (.int z.1), mk c z.2) 25 [some (.ref 34), some (.int x1), some (.int x2), some (.int x3)] [.int x1, .int r6, .int x2] (mk c S7) from ?_)
        refine J.cne (tgt := 32) d_T_countBeginning_25 rfl (fun q9 => ?_) (fun q9 => ?_)
        · have H := ite_f H q9
          refine J.run b_T_countBeginning_32_4 k_T_countBeginning_32_4 rfl (show J w (d + 4) m_T_countBeginning (n0, z0, some (.int z.1), mk c z.2) 38 [some (.ref 34), some (.int x1), some (.int (x2 + (0 : Int32))), some (.int (x3 + (1 : Int32)))] [] (mk c S7) from ?_)
          refine J.goto (tgt := 4) d_T_countBeginning_38 rfl ?_
          refine J.mask [true, true, true, true] ?_
          exact ih S7 (x2 + (0 : Int32)) (x3 + (1 : Int32)) H
        · have H := ite_t H q9
          refine J.run b_T_countBeginning_28_1 k_T_countBeginning_28_1 rfl (show J w (d + 4) m_T_countBeginning (n0, z0, some (.int z.1), mk c z.2) 29 [some (.ref 34), some (.int x1), some (.int x2), some (.int x3)] [.int (1 : Int32), .int x2] (mk c S7) from ?_)
          refine J.goto (tgt := 33) d_T_countBeginning_29 rfl ?_
          refine J.run b_T_countBeginning_33_3 k_T_countBeginning_33_3 rfl (show J w (d + 4) m_T_countBeginning (n0, z0, some (.int z.1), mk c z.2) 38 [some (.ref 34), some (.int x1), some (.int (x2 + (1 : Int32))), some (.int (x3 + (1 : Int32)))] [] (mk c S7) from ?_)
          refine J.goto (tgt := 4) d_T_countBeginning_38 rfl ?_
          refine J.mask [true, true, true, true] ?_
          exact ih S7 (x2 + (1 : Int32)) (x3 + (1 : Int32)) H
theorem c_T_countBeginning (w : Wd) (d : Nat) (c : cx)   (S : hs) (x1 : Int32)  {z : Int32 × hs} (H : f_T_countBeginning S x1 = some z) : Cl w (d + 4) m_T_countBeginning [.ref 34, .int x1] (mk c S) (some (.int z.1)) (mk c z.2) := by
  refine Cl.of (Nat.le_refl _) (Nat.le_refl _) (by decide +kernel) (Nat.le_of_ble_eq_true rfl) ?_
  unfold f_T_countBeginning at H
  generalize hN (mk c S) = n0
  generalize hZ (mk c S) = z0
  show J w (d + 4) m_T_countBeginning (n0, z0, some (.int z.1), mk c z.2) 0 [some (.ref 34), some (.int x1), none, none] [] (mk c S)
  refine J.run b_T_countBeginning_0_4 k_T_countBeginning_0_4 rfl (show J w (d + 4) m_T_countBeginning (n0, z0, some (.int z.1), mk c z.2) 4 [some (.ref 34), some (.int x1), some (.int (0 : Int32)), some (.int (0 : Int32))] [] (mk c S) from ?_)
  refine J.mask [true, true, true, true] ?_
  refine lo_T_countBeginning_4 w d c x1  1000 S (0 : Int32) (0 : Int32) H
def b_T_endOf_0_6 : List Ins := [(.iload_n 1, 0, 0, 0), (.iconst (1), 0, 0, 0), (.ishr, 0, 0, 0), (.istore_n 2, 0, 0, 0), (.aload_n 0, 0, 0, 0), (.iload_n 2, 0, 0, 0)]
theorem k_T_endOf_0_6 : bok m_T_endOf 0 b_T_endOf_0_6 = true := by decide +kernel
def b_T_endOf_33_1 : List Ins := [(.iconst (-1), 0, 0, 0)]
theorem k_T_endOf_33_1 : bok m_T_endOf 33 b_T_endOf_33_1 = true := by decide +kernel
def b_T_endOf_12_7 : List Ins := [(.aload_n 0, 0, 0, 0), (.getfield 16, 1, 1, 2), (.iload_n 2, 0, 0, 0), (.aaload, 0, 0, 0), (.iload_n 1, 0, 0, 0), (.iconst (1), 0, 0, 0), (.iand, 0, 0, 0)]
theorem k_T_endOf_12_7 : bok m_T_endOf 12 b_T_endOf_12_7 = true := by decide +kernel
def b_T_endOf_28_2 : List Ins := [(.iconst (0), 0, 0, 0), (.iaload, 0, 0, 0)]
theorem k_T_endOf_28_2 : bok m_T_endOf 28 b_T_endOf_28_2 = true := by decide +kernel
def b_T_endOf_24_1 : List Ins := [(.iconst (1), 0, 0, 0)]
theorem k_T_endOf_24_1 : bok m_T_endOf 24 b_T_endOf_24_1 = true := by decide +kernel
def b_T_endOf_29_1 : List Ins := [(.iaload, 0, 0, 0)]
theorem k_T_endOf_29_1 : bok m_T_endOf 29 b_T_endOf_29_1 = true := by decide +kernel
theorem d_T_endOf_6 : decode m_T_endOf.2.1 6 = .ok (.invokevirtual 43, 3) := by decide +kernel
theorem d_T_endOf_9 : decode m_T_endOf.2.1 9 = .ok (.ifCond .eq (24), 3) := by decide +kernel
theorem d_T_endOf_34 : decode m_T_endOf.2.1 34 = .ok (.ireturn, 1) := by decide +kernel
theorem d_T_endOf_21 : decode m_T_endOf.2.1 21 = .ok (.ifCond .ne (7), 3) := by decide +kernel
theorem d_T_endOf_30 : decode m_T_endOf.2.1 30 = .ok (.goto (4), 3) := by decide +kernel
theorem d_T_endOf_25 : decode m_T_endOf.2.1 25 = .ok (.goto (4), 3) := by decide +kernel
def f_T_endOf  (S : hs) (x1 : Int32) : Option (Int32 × hs) := bd (f_T_hasStreet  S (x1 >>> ((1 : Int32) &&& 31))) fun r1 S2 => (if r1 = 0 then some ((-1 : Int32), S2) else ck (inb (x1 >>> ((1 : Int32) &&& 31)) 20) ((if (x1 &&& (1 : Int32)) = 0 then some ((gI S2 (49 + ((x1 >>> ((1 : Int32) &&& 31))).toNatClampNeg) 1), S2) else some ((gI S2 (49 + ((x1 >>> ((1 : Int32) &&& 31))).toNatClampNeg) 0), S2))))
theorem c_T_endOf (w : Wd) (d : Nat) (c : cx)   (S : hs) (x1 : Int32)  {z : Int32 × hs} (H : f_T_endOf S x1 = some z) : Cl w (d + 2) m_T_endOf [.ref 34, .int x1] (mk c S) (some (.int z.1)) (mk c z.2) := by
  refine Cl.of (Nat.le_refl _) (Nat.le_refl _) (by decide +kernel) (Nat.le_of_ble_eq_true rfl) ?_
  unfold f_T_endOf at H
  generalize hN (mk c S) = n0
  generalize hZ (mk c S) = z0
  show J w (d + 2) m_T_endOf (n0, z0, some (.int z.1), mk c z.2) 0 [some (.ref 34), some (.int x1), none] [] (mk c S)
  refine J.run b_T_endOf_0_6 k_T_endOf_0_6 rfl (show J w (d + 2) m_T_endOf (n0, z0, some (.int z.1), mk c z.2) 6 [some (.ref 34), some (.int x1), some (.int (x1 >>> ((1 : Int32) &&& 31)))] [.int (x1 >>> ((1 : Int32) &&& 31)), .ref 34] (mk c S) from ?_)
  obtain ⟨r1, S2, h3, H⟩ := bd_e H
  refine J.callV (y := m_T_hasStreet) (av := [.int (x1 >>> ((1 : Int32) &&& 31))]) (rest := []) (q := 34) l_T_43 d_T_endOf_6 (isC_st rfl rfl) (c_T_hasStreet w (d + 0) c  S (x1 >>> ((1 : Int32) &&& 31)) h3) rfl (Nat.le_of_ble_eq_true rfl) ⟨Nat.le_refl _, Nat.le_refl _⟩ (show J w (d + 2) m_T_endOf (n0, z0, some (.int z.1), mk c z.2) 9 [some (.ref 34), some (.int x1), some (.int (x1 >>> ((1 : Int32) &&& 31)))] [.int r1] (mk c S2) from ?_)
  refine J.zeq (tgt := 33) d_T_endOf_9 rfl (fun q4 => ?_) (fun q4 => ?_)
  · have H := ite_t H q4
    refine J.run b_T_endOf_33_1 k_T_endOf_33_1 rfl (show J w (d + 2) m_T_endOf (n0, z0, some (.int z.1), mk c z.2) 34 [some (.ref 34), some (.int x1), some (.int (x1 >>> ((1 : Int32) &&& 31)))] [.int (-1 : Int32)] (mk c S2) from ?_)
    obtain rfl := some_e H
    exact J.iret d_T_endOf_34 rfl rfl
  · have H := ite_f H q4
    obtain ⟨g5, H⟩ := ck_e H
    refine J.run b_T_endOf_12_7 k_T_endOf_12_7 rfl (And.intro (okO_st (S := S2) rfl) (And.intro (okQ_st (S := S2) (k := 23) (n := 20) rfl rfl g5) (show J w (d + 2) m_T_endOf (n0, z0, some (.int z.1), mk c z.2) 21 [some (.ref 34), some (.int x1), some (.int (x1 >>> ((1 : Int32) &&& 31)))] [.int (x1 &&& (1 : Int32)), .ref (49 + ((x1 >>> ((1 : Int32) &&& 31))).toNatClampNeg)] (mk c S2) from ?_)))
    refine J.zne (tgt := 28) d_T_endOf_21 rfl (fun q6 => ?_) (fun q6 => ?_)
    · have H := ite_f H q6
      refine J.run b_T_endOf_28_2 k_T_endOf_28_2 rfl (And.intro (okA_row (S := S2) (b := 49) (cnt := 20) (n := 8) rfl (inb_lt g5) rfl) (show J w (d + 2) m_T_endOf (n0, z0, some (.int z.1), mk c z.2) 30 [some (.ref 34), some (.int x1), some (.int (x1 >>> ((1 : Int32) &&& 31)))] [.int (gI S2 (49 + ((x1 >>> ((1 : Int32) &&& 31))).toNatClampNeg) 0)] (mk c S2) from ?_))
      refine J.goto (tgt := 34) d_T_endOf_30 rfl ?_
      obtain rfl := some_e H
      exact J.iret d_T_endOf_34 rfl rfl
    · have H := ite_t H q6
      refine J.run b_T_endOf_24_1 k_T_endOf_24_1 rfl (show J w (d + 2) m_T_endOf (n0, z0, some (.int z.1), mk c z.2) 25 [some (.ref 34), some (.int x1), some (.int (x1 >>> ((1 : Int32) &&& 31)))] [.int (1 : Int32), .ref (49 + ((x1 >>> ((1 : Int32) &&& 31))).toNatClampNeg)] (mk c S2) from ?_)
      refine J.goto (tgt := 29) d_T_endOf_25 rfl ?_
      refine J.run b_T_endOf_29_1 k_T_endOf_29_1 rfl (And.intro (okA_row (S := S2) (b := 49) (cnt := 20) (n := 8) rfl (inb_lt g5) rfl) (show J w (d + 2) m_T_endOf (n0, z0, some (.int z.1), mk c z.2) 30 [some (.ref 34), some (.int x1), some (.int (x1 >>> ((1 : Int32) &&& 31)))] [.int (gI S2 (49 + ((x1 >>> ((1 : Int32) &&& 31))).toNatClampNeg) 1)] (mk c S2) from ?_))
      refine J.goto (tgt := 34) d_T_endOf_30 rfl ?_
      obtain rfl := some_e H
      exact J.iret d_T_endOf_34 rfl rfl
def b_T_countEnding_0_4 : List Ins := [(.iconst (0), 0, 0, 0), (.istore_n 2, 0, 0, 0), (.iconst (0), 0, 0, 0), (.istore_n 3, 0, 0, 0)]
theorem k_T_countEnding_0_4 : bok m_T_countEnding 0 b_T_countEnding_0_4 = true := by decide +kernel
def b_T_countEnding_4_2 : List Ins := [(.iload_n 3, 0, 0, 0), (.bipush (40), 0, 0, 0)]
theorem k_T_countEnding_4_2 : bok m_T_countEnding 4 b_T_countEnding_4_2 = true := by decide +kernel
def b_T_countEnding_41_1 : List Ins := [(.iload_n 2, 0, 0, 0)]
theorem k_T_countEnding_41_1 : bok m_T_countEnding 41 b_T_countEnding_41_1 = true := by decide +kernel
def b_T_countEnding_10_3 : List Ins := [(.iload_n 2, 0, 0, 0), (.aload_n 0, 0, 0, 0), (.iload_n 3, 0, 0, 0)]
theorem k_T_countEnding_10_3 : bok m_T_countEnding 10 b_T_countEnding_10_3 = true := by decide +kernel
def b_T_countEnding_32_4 : List Ins := [(.iconst (0), 0, 0, 0), (.iadd, 0, 0, 0), (.istore_n 2, 0, 0, 0), (.iinc 3 (1), 0, 0, 0)]
theorem k_T_countEnding_32_4 : bok m_T_countEnding 32 b_T_countEnding_32_4 = true := by decide +kernel
def b_T_countEnding_19_2 : List Ins := [(.aload_n 0, 0, 0, 0), (.iload_n 3, 0, 0, 0)]
theorem k_T_countEnding_19_2 : bok m_T_countEnding 19 b_T_countEnding_19_2 = true := by decide +kernel
def b_T_countEnding_24_1 : List Ins := [(.iload_n 1, 0, 0, 0)]
theorem k_T_countEnding_24_1 : bok m_T_countEnding 24 b_T_countEnding_24_1 = true := by decide +kernel
def b_T_countEnding_28_1 : List Ins := [(.iconst (1), 0, 0, 0)]
theorem k_T_countEnding_28_1 : bok m_T_countEnding 28 b_T_countEnding_28_1 = true := by decide +kernel
def b_T_countEnding_33_3 : List Ins := [(.iadd, 0, 0, 0), (.istore_n 2, 0, 0, 0), (.iinc 3 (1), 0, 0, 0)]
theorem k_T_countEnding_33_3 : bok m_T_countEnding 33 b_T_countEnding_33_3 = true := by decide +kernel
theorem d_T_countEnding_7 : decode m_T_countEnding.2.1 7 = .ok (.if_icmp .ge (34), 3) := by decide +kernel
theorem d_T_countEnding_42 : decode m_T_countEnding.2.1 42 = .ok (.ireturn, 1) := by decide +kernel
theorem d_T_countEnding_13 : decode m_T_countEnding.2.1 13 = .ok (.invokevirtual 50, 3) := by decide +kernel
theorem d_T_countEnding_16 : decode m_T_countEnding.2.1 16 = .ok (.ifCond .eq (16), 3) := by decide +kernel
theorem d_T_countEnding_38 : decode m_T_countEnding.2.1 38 = .ok (.goto (-34), 3) := by decide +kernel
theorem d_T_countEnding_21 : decode m_T_countEnding.2.1 21 = .ok (.invokevirtual 68, 3) := by decide +kernel
theorem d_T_countEnding_25 : decode m_T_countEnding.2.1 25 = .ok (.if_icmp .ne (7), 3) := by decide +kernel
theorem d_T_countEnding_29 : decode m_T_countEnding.2.1 29 = .ok (.goto (4), 3) := by decide +kernel
def lp_T_countEnding_4 (x1 : Int32)   : Nat → hs → Int32 → Int32 → Option (Int32 × hs)
  | 0, _, _, _ => none
  | n + 1, S, x2, x3 => (if (40 : Int32) ≤ x3 then some (x2, S) else bd (f_T_hasCourse  S x3) fun r2 S3 => (if r2 = 0 then lp_T_countEnding_4 x1 n S3 (x2 + (0 : Int32)) (x3 + (1 : Int32)) else bd (f_T_endOf  S3 x3) fun r6 S7 => (if r6 = x1 then lp_T_countEnding_4 x1 n S7 (x2 + (1 : Int32)) (x3 + (1 : Int32)) else lp_T_countEnding_4 x1 n S7 (x2 + (0 : Int32)) (x3 + (1 : Int32)))))
def f_T_countEnding  (S : hs) (x1 : Int32) : Option (Int32 × hs) := lp_T_countEnding_4 x1 1000 S (0 : Int32) (0 : Int32)
theorem lo_T_countEnding_4 (w : Wd) (d : Nat) (c : cx) {n0 z0 : Nat} {z : Int32 × hs}   (x1 : Int32)    :
    ∀ (n : Nat) (S : hs) (x2 : Int32) (x3 : Int32), lp_T_countEnding_4 x1 n S x2 x3 = some z → J w (d + 4) m_T_countEnding (n0, z0, some (.int z.1), mk c z.2) 4 [some (.ref 34), some (.int x1), some (.int x2), some (.int x3)] [] (mk c S) := by
  intro n
  induction n with
  | zero => intro S x2 x3 H; cases H
  | succ n ih =>
    intro S x2 x3 H
    rw [lp_T_countEnding_4] at H
    refine J.run b_T_countEnding_4_2 k_T_countEnding_4_2 rfl (show J w (d + 4) m_T_countEnding (n0, z0, some (.int z.1), mk c z.2) 7 [some (.ref 34), some (.int x1), some (.int x2), some (.int x3)] [.int (40 : Int32), .int x3] (mk c S) from ?_)
    refine J.cge (tgt := 41) d_T_countEnding_7 rfl (fun q1 => ?_) (fun q1 => ?_)
    · have H := ite_t H q1
      refine J.run b_T_countEnding_41_1 k_T_countEnding_41_1 rfl (show J w (d + 4) m_T_countEnding (n0, z0, some (.int z.1), mk c z.2) 42 [some (.ref 34), some (.int x1), some (.int x2), some (.int x3)] [.int x2] (mk c S) from ?_)
      obtain rfl := some_e H
      exact J.iret d_T_countEnding_42 rfl rfl
    · have H := ite_f H q1
      refine J.run b_T_countEnding_10_3 k_T_countEnding_10_3 rfl (show J w (d + 4) m_T_countEnding (n0, z0, some (.int z.1), mk c z.2) 13 [some (.ref 34), some (.int x1), some (.int x2), some (.int x3)] [.int x3, .ref 34, .int x2] (mk c S) from ?_)
      obtain ⟨r2, S3, h4, H⟩ := bd_e H
      refine J.callV (y := m_T_hasCourse) (av := [.int x3]) (rest := [.int x2]) (q := 34) l_T_50 d_T_countEnding_13 (isC_st rfl rfl) (c_T_hasCourse w (d + 0) c  S x3 h4) rfl (Nat.le_of_ble_eq_true rfl) ⟨Nat.le_refl _, Nat.le_refl _⟩ (show J w (d + 4) m_T_countEnding (n0, z0, some (.int z.1), mk c z.2) 16 [some (.ref 34), some (.int x1), some (.int x2), some (.int x3)] [.int r2, .int x2] (mk c S3) from ?_)
      refine J.zeq (tgt := 32) d_T_countEnding_16 rfl (fun q5 => ?_) (fun q5 => ?_)
      · have H := ite_t H q5
        refine J.run b_T_countEnding_32_4 k_T_countEnding_32_4 rfl (show J w (d + 4) m_T_countEnding (n0, z0, some (.int z.1), mk c z.2) 38 [some (.ref 34), some (.int x1), some (.int (x2 + (0 : Int32))), some (.int (x3 + (1 : Int32)))] [] (mk c S3) from ?_)
        refine J.goto (tgt := 4) d_T_countEnding_38 rfl ?_
        refine J.mask [true, true, true, true] ?_
        exact ih S3 (x2 + (0 : Int32)) (x3 + (1 : Int32)) H
      · have H := ite_f H q5
        refine J.run b_T_countEnding_19_2 k_T_countEnding_19_2 rfl (show J w (d + 4) m_T_countEnding (n0, z0, some (.int z.1), mk c z.2) 21 [some (.ref 34), some (.int x1), some (.int x2), some (.int x3)] [.int x3, .ref 34, .int x2] (mk c S3) from ?_)
        obtain ⟨r6, S7, h8, H⟩ := bd_e H
        refine J.callV (y := m_T_endOf) (av := [.int x3]) (rest := [.int x2]) (q := 34) l_T_68 d_T_countEnding_21 (isC_st rfl rfl) (c_T_endOf w (d + 1) c  S3 x3 h8) rfl (Nat.le_of_ble_eq_true rfl) ⟨Nat.le_refl _, Nat.le_refl _⟩ (show J w (d + 4) m_T_countEnding (n0, z0, some (.int z.1), mk c z.2) 24 [some (.ref 34), some (.int x1), some (.int x2), some (.int x3)] [.int r6, .int x2] (mk c S7) from ?_)
        refine J.run b_T_countEnding_24_1 k_T_countEnding_24_1 rfl (show J w (d + 4) m_T_countEnding (n0, z0, some (.int z.1), mk c z.2) 25 [some (.ref 34), some (.int x1), some (.int x2), some (.int x3)] [.int x1, .int r6, .int x2] (mk c S7) from ?_)
        refine J.cne (tgt := 32) d_T_countEnding_25 rfl (fun q9 => ?_) (fun q9 => ?_)
        · have H := ite_f H q9
          refine J.run b_T_countEnding_32_4 k_T_countEnding_32_4 rfl (show J w (d + 4) m_T_countEnding (n0, z0, some (.int z.1), mk c z.2) 38 [some (.ref 34), some (.int x1), some (.int (x2 + (0 : Int32))), some (.int (x3 + (1 : Int32)))] [] (mk c S7) from ?_)
          refine J.goto (tgt := 4) d_T_countEnding_38 rfl ?_
          refine J.mask [true, true, true, true] ?_
          exact ih S7 (x2 + (0 : Int32)) (x3 + (1 : Int32)) H
        · have H := ite_t H q9
          refine J.run b_T_countEnding_28_1 k_T_countEnding_28_1 rfl (show J w (d + 4) m_T_countEnding (n0, z0, some (.int z.1), mk c z.2) 29 [some (.ref 34), some (.int x1), some (.int x2), some (.int x3)] [.int (1 : Int32), .int x2] (mk c S7) from ?_)
          refine J.goto (tgt := 33) d_T_countEnding_29 rfl ?_
          refine J.run b_T_countEnding_33_3 k_T_countEnding_33_3 rfl (show J w (d + 4) m_T_countEnding (n0, z0, some (.int z.1), mk c z.2) 38 [some (.ref 34), some (.int x1), some (.int (x2 + (1 : Int32))), some (.int (x3 + (1 : Int32)))] [] (mk c S7) from ?_)
          refine J.goto (tgt := 4) d_T_countEnding_38 rfl ?_
          refine J.mask [true, true, true, true] ?_
          exact ih S7 (x2 + (1 : Int32)) (x3 + (1 : Int32)) H
theorem c_T_countEnding (w : Wd) (d : Nat) (c : cx)   (S : hs) (x1 : Int32)  {z : Int32 × hs} (H : f_T_countEnding S x1 = some z) : Cl w (d + 4) m_T_countEnding [.ref 34, .int x1] (mk c S) (some (.int z.1)) (mk c z.2) := by
  refine Cl.of (Nat.le_refl _) (Nat.le_refl _) (by decide +kernel) (Nat.le_of_ble_eq_true rfl) ?_
  unfold f_T_countEnding at H
  generalize hN (mk c S) = n0
  generalize hZ (mk c S) = z0
  show J w (d + 4) m_T_countEnding (n0, z0, some (.int z.1), mk c z.2) 0 [some (.ref 34), some (.int x1), none, none] [] (mk c S)
  refine J.run b_T_countEnding_0_4 k_T_countEnding_0_4 rfl (show J w (d + 4) m_T_countEnding (n0, z0, some (.int z.1), mk c z.2) 4 [some (.ref 34), some (.int x1), some (.int (0 : Int32)), some (.int (0 : Int32))] [] (mk c S) from ?_)
  refine J.mask [true, true, true, true] ?_
  refine lo_T_countEnding_4 w d c x1  1000 S (0 : Int32) (0 : Int32) H
def b_Ma_abs_0_1 : List Ins := [(.iload_n 0, 0, 0, 0)]
theorem k_Ma_abs_0_1 : bok m_Ma_abs 0 b_Ma_abs_0_1 = true := by decide +kernel
def b_Ma_abs_9_1 : List Ins := [(.iload_n 0, 0, 0, 0)]
theorem k_Ma_abs_9_1 : bok m_Ma_abs 9 b_Ma_abs_9_1 = true := by decide +kernel
def b_Ma_abs_4_2 : List Ins := [(.iload_n 0, 0, 0, 0), (.ineg, 0, 0, 0)]
theorem k_Ma_abs_4_2 : bok m_Ma_abs 4 b_Ma_abs_4_2 = true := by decide +kernel
theorem d_Ma_abs_1 : decode m_Ma_abs.2.1 1 = .ok (.ifCond .ge (8), 3) := by decide +kernel
theorem d_Ma_abs_10 : decode m_Ma_abs.2.1 10 = .ok (.ireturn, 1) := by decide +kernel
theorem d_Ma_abs_6 : decode m_Ma_abs.2.1 6 = .ok (.goto (4), 3) := by decide +kernel
def f_Ma_abs  (S : hs) (x0 : Int32) : Option (Int32 × hs) := (if 0 ≤ x0 then some (x0, S) else some ((-x0), S))
theorem c_Ma_abs (w : Wd) (d : Nat) (c : cx)   (S : hs) (x0 : Int32)  {z : Int32 × hs} (H : f_Ma_abs S x0 = some z) : Cl w (d + 1) m_Ma_abs [.int x0] (mk c S) (some (.int z.1)) (mk c z.2) := by
  refine Cl.of (Nat.le_refl _) (Nat.le_refl _) (by decide +kernel) (Nat.le_of_ble_eq_true rfl) ?_
  unfold f_Ma_abs at H
  generalize hN (mk c S) = n0
  generalize hZ (mk c S) = z0
  show J w (d + 1) m_Ma_abs (n0, z0, some (.int z.1), mk c z.2) 0 [some (.int x0)] [] (mk c S)
  refine J.run b_Ma_abs_0_1 k_Ma_abs_0_1 rfl (show J w (d + 1) m_Ma_abs (n0, z0, some (.int z.1), mk c z.2) 1 [some (.int x0)] [.int x0] (mk c S) from ?_)
  refine J.zge (tgt := 9) d_Ma_abs_1 rfl (fun q1 => ?_) (fun q1 => ?_)
  · have H := ite_t H q1
    refine J.run b_Ma_abs_9_1 k_Ma_abs_9_1 rfl (show J w (d + 1) m_Ma_abs (n0, z0, some (.int z.1), mk c z.2) 10 [some (.int x0)] [.int x0] (mk c S) from ?_)
    obtain rfl := some_e H
    exact J.iret d_Ma_abs_10 rfl rfl
  · have H := ite_f H q1
    refine J.run b_Ma_abs_4_2 k_Ma_abs_4_2 rfl (show J w (d + 1) m_Ma_abs (n0, z0, some (.int z.1), mk c z.2) 6 [some (.int x0)] [.int (-x0)] (mk c S) from ?_)
    refine J.goto (tgt := 10) d_Ma_abs_6 rfl ?_
    obtain rfl := some_e H
    exact J.iret d_Ma_abs_10 rfl rfl
def b_T_addStreet_0_5 : List Ins := [(.aload_n 0, 0, 0, 0), (.getfield 37, 1, 6, 0), (.istore 5, 0, 0, 0), (.iload 5, 0, 0, 0), (.bipush (20), 0, 0, 0)]
theorem k_T_addStreet_0_5 : bok m_T_addStreet 0 b_T_addStreet_0_5 = true := by decide +kernel
def b_T_addStreet_29_1 : List Ins := [(.bipush (-2), 0, 0, 0)]
theorem k_T_addStreet_29_1 : bok m_T_addStreet 29 b_T_addStreet_29_1 = true := by decide +kernel
def b_T_addStreet_13_2 : List Ins := [(.aload_n 0, 0, 0, 0), (.iload_n 1, 0, 0, 0)]
theorem k_T_addStreet_13_2 : bok m_T_addStreet 13 b_T_addStreet_13_2 = true := by decide +kernel
def b_T_addStreet_21_2 : List Ins := [(.aload_n 0, 0, 0, 0), (.iload_n 2, 0, 0, 0)]
theorem k_T_addStreet_21_2 : bok m_T_addStreet 21 b_T_addStreet_21_2 = true := by decide +kernel
def b_T_addStreet_32_20 : List Ins := [(.aload_n 0, 0, 0, 0), (.getfield 16, 1, 1, 2), (.iload 5, 0, 0, 0), (.aaload, 0, 0, 0), (.astore 6, 0, 0, 0), (.aload 6, 0, 0, 0), (.iconst (0), 0, 0, 0), (.iload_n 1, 0, 0, 0), (.iastore, 0, 0, 0), (.aload 6, 0, 0, 0), (.iconst (1), 0, 0, 0), (.iload_n 2, 0, 0, 0), (.iastore, 0, 0, 0), (.aload 6, 0, 0, 0), (.iconst (2), 0, 0, 0), (.iload_n 3, 0, 0, 0), (.iastore, 0, 0, 0), (.aload 6, 0, 0, 0), (.iconst (3), 0, 0, 0), (.iload 4, 0, 0, 0)]
theorem k_T_addStreet_32_20 : bok m_T_addStreet 32 b_T_addStreet_32_20 = true := by decide +kernel
def b_T_addStreet_68_39 : List Ins := [(.iconst (0), 0, 0, 0), (.iastore, 0, 0, 0), (.aload 6, 0, 0, 0), (.bipush (6), 0, 0, 0), (.aload_n 0, 0, 0, 0), (.getfield 11, 1, 0, 2), (.iload_n 2, 0, 0, 0), (.aaload, 0, 0, 0), (.iconst (0), 0, 0, 0), (.iaload, 0, 0, 0), (.aload_n 0, 0, 0, 0), (.getfield 11, 1, 0, 2), (.iload_n 1, 0, 0, 0), (.aaload, 0, 0, 0), (.iconst (0), 0, 0, 0), (.iaload, 0, 0, 0), (.isub, 0, 0, 0), (.iastore, 0, 0, 0), (.aload 6, 0, 0, 0), (.bipush (7), 0, 0, 0), (.aload_n 0, 0, 0, 0), (.getfield 11, 1, 0, 2), (.iload_n 2, 0, 0, 0), (.aaload, 0, 0, 0), (.iconst (1), 0, 0, 0), (.iaload, 0, 0, 0), (.aload_n 0, 0, 0, 0), (.getfield 11, 1, 0, 2), (.iload_n 1, 0, 0, 0), (.aaload, 0, 0, 0), (.iconst (1), 0, 0, 0), (.iaload, 0, 0, 0), (.isub, 0, 0, 0), (.iastore, 0, 0, 0), (.aload 6, 0, 0, 0), (.iconst (4), 0, 0, 0), (.aload 6, 0, 0, 0), (.bipush (6), 0, 0, 0), (.iaload, 0, 0, 0)]
theorem k_T_addStreet_68_39 : bok m_T_addStreet 68 b_T_addStreet_68_39 = true := by decide +kernel
def b_T_addStreet_125_3 : List Ins := [(.aload 6, 0, 0, 0), (.bipush (7), 0, 0, 0), (.iaload, 0, 0, 0)]
theorem k_T_addStreet_125_3 : bok m_T_addStreet 125 b_T_addStreet_125_3 = true := by decide +kernel
def b_T_addStreet_133_13 : List Ins := [(.iadd, 0, 0, 0), (.iastore, 0, 0, 0), (.aload 6, 0, 0, 0), (.iconst (5), 0, 0, 0), (.iconst (0), 0, 0, 0), (.iastore, 0, 0, 0), (.aload_n 0, 0, 0, 0), (.dup, 0, 0, 0), (.getfield 37, 1, 6, 0), (.iconst (1), 0, 0, 0), (.iadd, 0, 0, 0), (.putfield 37, 1, 6, 0), (.iload 5, 0, 0, 0)]
theorem k_T_addStreet_133_13 : bok m_T_addStreet 133 b_T_addStreet_133_13 = true := by decide +kernel
def b_T_addStreet_64_1 : List Ins := [(.iconst (1), 0, 0, 0)]
theorem k_T_addStreet_64_1 : bok m_T_addStreet 64 b_T_addStreet_64_1 = true := by decide +kernel
def b_T_addStreet_69_38 : List Ins := [(.iastore, 0, 0, 0), (.aload 6, 0, 0, 0), (.bipush (6), 0, 0, 0), (.aload_n 0, 0, 0, 0), (.getfield 11, 1, 0, 2), (.iload_n 2, 0, 0, 0), (.aaload, 0, 0, 0), (.iconst (0), 0, 0, 0), (.iaload, 0, 0, 0), (.aload_n 0, 0, 0, 0), (.getfield 11, 1, 0, 2), (.iload_n 1, 0, 0, 0), (.aaload, 0, 0, 0), (.iconst (0), 0, 0, 0), (.iaload, 0, 0, 0), (.isub, 0, 0, 0), (.iastore, 0, 0, 0), (.aload 6, 0, 0, 0), (.bipush (7), 0, 0, 0), (.aload_n 0, 0, 0, 0), (.getfield 11, 1, 0, 2), (.iload_n 2, 0, 0, 0), (.aaload, 0, 0, 0), (.iconst (1), 0, 0, 0), (.iaload, 0, 0, 0), (.aload_n 0, 0, 0, 0), (.getfield 11, 1, 0, 2), (.iload_n 1, 0, 0, 0), (.aaload, 0, 0, 0), (.iconst (1), 0, 0, 0), (.iaload, 0, 0, 0), (.isub, 0, 0, 0), (.iastore, 0, 0, 0), (.aload 6, 0, 0, 0), (.iconst (4), 0, 0, 0), (.aload 6, 0, 0, 0), (.bipush (6), 0, 0, 0), (.iaload, 0, 0, 0)]
theorem k_T_addStreet_69_38 : bok m_T_addStreet 69 b_T_addStreet_69_38 = true := by decide +kernel
theorem d_T_addStreet_10 : decode m_T_addStreet.2.1 10 = .ok (.if_icmp .ge (19), 3) := by decide +kernel
theorem d_T_addStreet_31 : decode m_T_addStreet.2.1 31 = .ok (.ireturn, 1) := by decide +kernel
theorem d_T_addStreet_15 : decode m_T_addStreet.2.1 15 = .ok (.invokevirtual 57, 3) := by decide +kernel
theorem d_T_addStreet_18 : decode m_T_addStreet.2.1 18 = .ok (.ifCond .eq (11), 3) := by decide +kernel
theorem d_T_addStreet_23 : decode m_T_addStreet.2.1 23 = .ok (.invokevirtual 57, 3) := by decide +kernel
theorem d_T_addStreet_26 : decode m_T_addStreet.2.1 26 = .ok (.ifCond .ne (6), 3) := by decide +kernel
theorem d_T_addStreet_61 : decode m_T_addStreet.2.1 61 = .ok (.ifCond .eq (7), 3) := by decide +kernel
theorem d_T_addStreet_122 : decode m_T_addStreet.2.1 122 = .ok (.invokestatic 60, 3) := by decide +kernel
theorem d_T_addStreet_130 : decode m_T_addStreet.2.1 130 = .ok (.invokestatic 60, 3) := by decide +kernel
theorem d_T_addStreet_152 : decode m_T_addStreet.2.1 152 = .ok (.ireturn, 1) := by decide +kernel
theorem d_T_addStreet_65 : decode m_T_addStreet.2.1 65 = .ok (.goto (4), 3) := by decide +kernel
def f_T_addStreet  (S : hs) (x1 : Int32) (x2 : Int32) (x3 : Int32) (x4 : Int32) : Option (Int32 × hs) := (if (20 : Int32) ≤ (gI S 34 6) then some ((-2 : Int32), S) else bd (f_T_hasCrossing  S x1) fun r2 S3 => (if r2 = 0 then some ((-2 : Int32), S3) else bd (f_T_hasCrossing  S3 x2) fun r6 S7 => (if r6 = 0 then some ((-2 : Int32), S7) else ck (inb (gI S 34 6) 20) ((if x4 = 0 then ck (inb x2 12) (ck (inb x1 12) (bd (f_Ma_abs  (uI (uI (uI (uI (uI (uI S7 (49 + ((gI S 34 6)).toNatClampNeg) 0 x1) (49 + ((gI S 34 6)).toNatClampNeg) 1 x2) (49 + ((gI S 34 6)).toNatClampNeg) 2 x3) (49 + ((gI S 34 6)).toNatClampNeg) 3 (0 : Int32)) (49 + ((gI S 34 6)).toNatClampNeg) 6 ((gI (uI (uI (uI (uI S7 (49 + ((gI S 34 6)).toNatClampNeg) 0 x1) (49 + ((gI S 34 6)).toNatClampNeg) 1 x2) (49 + ((gI S 34 6)).toNatClampNeg) 2 x3) (49 + ((gI S 34 6)).toNatClampNeg) 3 (0 : Int32)) (36 + (x2).toNatClampNeg) 0) - (gI (uI (uI (uI (uI S7 (49 + ((gI S 34 6)).toNatClampNeg) 0 x1) (49 + ((gI S 34 6)).toNatClampNeg) 1 x2) (49 + ((gI S 34 6)).toNatClampNeg) 2 x3) (49 + ((gI S 34 6)).toNatClampNeg) 3 (0 : Int32)) (36 + (x1).toNatClampNeg) 0))) (49 + ((gI S 34 6)).toNatClampNeg) 7 ((gI (uI (uI (uI (uI (uI S7 (49 + ((gI S 34 6)).toNatClampNeg) 0 x1) (49 + ((gI S 34 6)).toNatClampNeg) 1 x2) (49 + ((gI S 34 6)).toNatClampNeg) 2 x3) (49 + ((gI S 34 6)).toNatClampNeg) 3 (0 : Int32)) (49 + ((gI S 34 6)).toNatClampNeg) 6 ((gI (uI (uI (uI (uI S7 (49 + ((gI S 34 6)).toNatClampNeg) 0 x1) (49 + ((gI S 34 6)).toNatClampNeg) 1 x2) (49 + ((gI S 34 6)).toNatClampNeg) 2 x3) (49 + ((gI S 34 6)).toNatClampNeg) 3 (0 : Int32)) (36 + (x2).toNatClampNeg) 0) - (gI (uI (uI (uI (uI S7 (49 + ((gI S 34 6)).toNatClampNeg) 0 x1) (49 + ((gI S 34 6)).toNatClampNeg) 1 x2) (49 + ((gI S 34 6)).toNatClampNeg) 2 x3) (49 + ((gI S 34 6)).toNatClampNeg) 3 (0 : Int32)) (36 + (x1).toNatClampNeg) 0))) (36 + (x2).toNatClampNeg) 1) - (gI (uI (uI (uI (uI (uI S7 (49 + ((gI S 34 6)).toNatClampNeg) 0 x1) (49 + ((gI S 34 6)).toNatClampNeg) 1 x2) (49 + ((gI S 34 6)).toNatClampNeg) 2 x3) (49 + ((gI S 34 6)).toNatClampNeg) 3 (0 : Int32)) (49 + ((gI S 34 6)).toNatClampNeg) 6 ((gI (uI (uI (uI (uI S7 (49 + ((gI S 34 6)).toNatClampNeg) 0 x1) (49 + ((gI S 34 6)).toNatClampNeg) 1 x2) (49 + ((gI S 34 6)).toNatClampNeg) 2 x3) (49 + ((gI S 34 6)).toNatClampNeg) 3 (0 : Int32)) (36 + (x2).toNatClampNeg) 0) - (gI (uI (uI (uI (uI S7 (49 + ((gI S 34 6)).toNatClampNeg) 0 x1) (49 + ((gI S 34 6)).toNatClampNeg) 1 x2) (49 + ((gI S 34 6)).toNatClampNeg) 2 x3) (49 + ((gI S 34 6)).toNatClampNeg) 3 (0 : Int32)) (36 + (x1).toNatClampNeg) 0))) (36 + (x1).toNatClampNeg) 1))) (gI (uI (uI (uI (uI (uI (uI S7 (49 + ((gI S 34 6)).toNatClampNeg) 0 x1) (49 + ((gI S 34 6)).toNatClampNeg) 1 x2) (49 + ((gI S 34 6)).toNatClampNeg) 2 x3) (49 + ((gI S 34 6)).toNatClampNeg) 3 (0 : Int32)) (49 + ((gI S 34 6)).toNatClampNeg) 6 ((gI (uI (uI (uI (uI S7 (49 + ((gI S 34 6)).toNatClampNeg) 0 x1) (49 + ((gI S 34 6)).toNatClampNeg) 1 x2) (49 + ((gI S 34 6)).toNatClampNeg) 2 x3) (49 + ((gI S 34 6)).toNatClampNeg) 3 (0 : Int32)) (36 + (x2).toNatClampNeg) 0) - (gI (uI (uI (uI (uI S7 (49 + ((gI S 34 6)).toNatClampNeg) 0 x1) (49 + ((gI S 34 6)).toNatClampNeg) 1 x2) (49 + ((gI S 34 6)).toNatClampNeg) 2 x3) (49 + ((gI S 34 6)).toNatClampNeg) 3 (0 : Int32)) (36 + (x1).toNatClampNeg) 0))) (49 + ((gI S 34 6)).toNatClampNeg) 7 ((gI (uI (uI (uI (uI (uI S7 (49 + ((gI S 34 6)).toNatClampNeg) 0 x1) (49 + ((gI S 34 6)).toNatClampNeg) 1 x2) (49 + ((gI S 34 6)).toNatClampNeg) 2 x3) (49 + ((gI S 34 6)).toNatClampNeg) 3 (0 : Int32)) (49 + ((gI S 34 6)).toNatClampNeg) 6 ((gI (uI (uI (uI (uI S7 (49 + ((gI S 34 6)).toNatClampNeg) 0 x1) (49 + ((gI S 34 6)).toNatClampNeg) 1 x2) (49 + ((gI S 34 6)).toNatClampNeg) 2 x3) (49 + ((gI S 34 6)).toNatClampNeg) 3 (0 : Int32)) (36 + (x2).toNatClampNeg) 0) - (gI (uI (uI (uI (uI S7 (49 + ((gI S 34 6)).toNatClampNeg) 0 x1) (49 + ((gI S 34 6)).toNatClampNeg) 1 x2) (49 + ((gI S 34 6)).toNatClampNeg) 2 x3) (49 + ((gI S 34 6)).toNatClampNeg) 3 (0 : Int32)) (36 + (x1).toNatClampNeg) 0))) (36 + (x2).toNatClampNeg) 1) - (gI (uI (uI (uI (uI (uI S7 (49 + ((gI S 34 6)).toNatClampNeg) 0 x1) (49 + ((gI S 34 6)).toNatClampNeg) 1 x2) (49 + ((gI S 34 6)).toNatClampNeg) 2 x3) (49 + ((gI S 34 6)).toNatClampNeg) 3 (0 : Int32)) (49 + ((gI S 34 6)).toNatClampNeg) 6 ((gI (uI (uI (uI (uI S7 (49 + ((gI S 34 6)).toNatClampNeg) 0 x1) (49 + ((gI S 34 6)).toNatClampNeg) 1 x2) (49 + ((gI S 34 6)).toNatClampNeg) 2 x3) (49 + ((gI S 34 6)).toNatClampNeg) 3 (0 : Int32)) (36 + (x2).toNatClampNeg) 0) - (gI (uI (uI (uI (uI S7 (49 + ((gI S 34 6)).toNatClampNeg) 0 x1) (49 + ((gI S 34 6)).toNatClampNeg) 1 x2) (49 + ((gI S 34 6)).toNatClampNeg) 2 x3) (49 + ((gI S 34 6)).toNatClampNeg) 3 (0 : Int32)) (36 + (x1).toNatClampNeg) 0))) (36 + (x1).toNatClampNeg) 1))) (49 + ((gI S 34 6)).toNatClampNeg) 6)) fun r14 S15 => bd (f_Ma_abs  S15 (gI S15 (49 + ((gI S 34 6)).toNatClampNeg) 7)) fun r17 S18 => some ((gI S 34 6), (uI (uI (uI S18 (49 + ((gI S 34 6)).toNatClampNeg) 4 (r14 + r17)) (49 + ((gI S 34 6)).toNatClampNeg) 5 (0 : Int32)) 34 6 ((gI (uI (uI S18 (49 + ((gI S 34 6)).toNatClampNeg) 4 (r14 + r17)) (49 + ((gI S 34 6)).toNatClampNeg) 5 (0 : Int32)) 34 6) + (1 : Int32)))))) else ck (inb x2 12) (ck (inb x1 12) (bd (f_Ma_abs  (uI (uI (uI (uI (uI (uI S7 (49 + ((gI S 34 6)).toNatClampNeg) 0 x1) (49 + ((gI S 34 6)).toNatClampNeg) 1 x2) (49 + ((gI S 34 6)).toNatClampNeg) 2 x3) (49 + ((gI S 34 6)).toNatClampNeg) 3 (1 : Int32)) (49 + ((gI S 34 6)).toNatClampNeg) 6 ((gI (uI (uI (uI (uI S7 (49 + ((gI S 34 6)).toNatClampNeg) 0 x1) (49 + ((gI S 34 6)).toNatClampNeg) 1 x2) (49 + ((gI S 34 6)).toNatClampNeg) 2 x3) (49 + ((gI S 34 6)).toNatClampNeg) 3 (1 : Int32)) (36 + (x2).toNatClampNeg) 0) - (gI (uI (uI (uI (uI S7 (49 + ((gI S 34 6)).toNatClampNeg) 0 x1) (49 + ((gI S 34 6)).toNatClampNeg) 1 x2) (49 + ((gI S 34 6)).toNatClampNeg) 2 x3) (49 + ((gI S 34 6)).toNatClampNeg) 3 (1 : Int32)) (36 + (x1).toNatClampNeg) 0))) (49 + ((gI S 34 6)).toNatClampNeg) 7 ((gI (uI (uI (uI (uI (uI S7 (49 + ((gI S 34 6)).toNatClampNeg) 0 x1) (49 + ((gI S 34 6)).toNatClampNeg) 1 x2) (49 + ((gI S 34 6)).toNatClampNeg) 2 x3) (49 + ((gI S 34 6)).toNatClampNeg) 3 (1 : Int32)) (49 + ((gI S 34 6)).toNatClampNeg) 6 ((gI (uI (uI (uI (uI S7 (49 + ((gI S 34 6)).toNatClampNeg) 0 x1) (49 + ((gI S 34 6)).toNatClampNeg) 1 x2) (49 + ((gI S 34 6)).toNatClampNeg) 2 x3) (49 + ((gI S 34 6)).toNatClampNeg) 3 (1 : Int32)) (36 + (x2).toNatClampNeg) 0) - (gI (uI (uI (uI (uI S7 (49 + ((gI S 34 6)).toNatClampNeg) 0 x1) (49 + ((gI S 34 6)).toNatClampNeg) 1 x2) (49 + ((gI S 34 6)).toNatClampNeg) 2 x3) (49 + ((gI S 34 6)).toNatClampNeg) 3 (1 : Int32)) (36 + (x1).toNatClampNeg) 0))) (36 + (x2).toNatClampNeg) 1) - (gI (uI (uI (uI (uI (uI S7 (49 + ((gI S 34 6)).toNatClampNeg) 0 x1) (49 + ((gI S 34 6)).toNatClampNeg) 1 x2) (49 + ((gI S 34 6)).toNatClampNeg) 2 x3) (49 + ((gI S 34 6)).toNatClampNeg) 3 (1 : Int32)) (49 + ((gI S 34 6)).toNatClampNeg) 6 ((gI (uI (uI (uI (uI S7 (49 + ((gI S 34 6)).toNatClampNeg) 0 x1) (49 + ((gI S 34 6)).toNatClampNeg) 1 x2) (49 + ((gI S 34 6)).toNatClampNeg) 2 x3) (49 + ((gI S 34 6)).toNatClampNeg) 3 (1 : Int32)) (36 + (x2).toNatClampNeg) 0) - (gI (uI (uI (uI (uI S7 (49 + ((gI S 34 6)).toNatClampNeg) 0 x1) (49 + ((gI S 34 6)).toNatClampNeg) 1 x2) (49 + ((gI S 34 6)).toNatClampNeg) 2 x3) (49 + ((gI S 34 6)).toNatClampNeg) 3 (1 : Int32)) (36 + (x1).toNatClampNeg) 0))) (36 + (x1).toNatClampNeg) 1))) (gI (uI (uI (uI (uI (uI (uI S7 (49 + ((gI S 34 6)).toNatClampNeg) 0 x1) (49 + ((gI S 34 6)).toNatClampNeg) 1 x2) (49 + ((gI S 34 6)).toNatClampNeg) 2 x3) (49 + ((gI S 34 6)).toNatClampNeg) 3 (1 : Int32)) (49 + ((gI S 34 6)).toNatClampNeg) 6 ((gI (uI (uI (uI (uI S7 (49 + ((gI S 34 6)).toNatClampNeg) 0 x1) (49 + ((gI S 34 6)).toNatClampNeg) 1 x2) (49 + ((gI S 34 6)).toNatClampNeg) 2 x3) (49 + ((gI S 34 6)).toNatClampNeg) 3 (1 : Int32)) (36 + (x2).toNatClampNeg) 0) - (gI (uI (uI (uI (uI S7 (49 + ((gI S 34 6)).toNatClampNeg) 0 x1) (49 + ((gI S 34 6)).toNatClampNeg) 1 x2) (49 + ((gI S 34 6)).toNatClampNeg) 2 x3) (49 + ((gI S 34 6)).toNatClampNeg) 3 (1 : Int32)) (36 + (x1).toNatClampNeg) 0))) (49 + ((gI S 34 6)).toNatClampNeg) 7 ((gI (uI (uI (uI (uI (uI S7 (49 + ((gI S 34 6)).toNatClampNeg) 0 x1) (49 + ((gI S 34 6)).toNatClampNeg) 1 x2) (49 + ((gI S 34 6)).toNatClampNeg) 2 x3) (49 + ((gI S 34 6)).toNatClampNeg) 3 (1 : Int32)) (49 + ((gI S 34 6)).toNatClampNeg) 6 ((gI (uI (uI (uI (uI S7 (49 + ((gI S 34 6)).toNatClampNeg) 0 x1) (49 + ((gI S 34 6)).toNatClampNeg) 1 x2) (49 + ((gI S 34 6)).toNatClampNeg) 2 x3) (49 + ((gI S 34 6)).toNatClampNeg) 3 (1 : Int32)) (36 + (x2).toNatClampNeg) 0) - (gI (uI (uI (uI (uI S7 (49 + ((gI S 34 6)).toNatClampNeg) 0 x1) (49 + ((gI S 34 6)).toNatClampNeg) 1 x2) (49 + ((gI S 34 6)).toNatClampNeg) 2 x3) (49 + ((gI S 34 6)).toNatClampNeg) 3 (1 : Int32)) (36 + (x1).toNatClampNeg) 0))) (36 + (x2).toNatClampNeg) 1) - (gI (uI (uI (uI (uI (uI S7 (49 + ((gI S 34 6)).toNatClampNeg) 0 x1) (49 + ((gI S 34 6)).toNatClampNeg) 1 x2) (49 + ((gI S 34 6)).toNatClampNeg) 2 x3) (49 + ((gI S 34 6)).toNatClampNeg) 3 (1 : Int32)) (49 + ((gI S 34 6)).toNatClampNeg) 6 ((gI (uI (uI (uI (uI S7 (49 + ((gI S 34 6)).toNatClampNeg) 0 x1) (49 + ((gI S 34 6)).toNatClampNeg) 1 x2) (49 + ((gI S 34 6)).toNatClampNeg) 2 x3) (49 + ((gI S 34 6)).toNatClampNeg) 3 (1 : Int32)) (36 + (x2).toNatClampNeg) 0) - (gI (uI (uI (uI (uI S7 (49 + ((gI S 34 6)).toNatClampNeg) 0 x1) (49 + ((gI S 34 6)).toNatClampNeg) 1 x2) (49 + ((gI S 34 6)).toNatClampNeg) 2 x3) (49 + ((gI S 34 6)).toNatClampNeg) 3 (1 : Int32)) (36 + (x1).toNatClampNeg) 0))) (36 + (x1).toNatClampNeg) 1))) (49 + ((gI S 34 6)).toNatClampNeg) 6)) fun r22 S23 => bd (f_Ma_abs  S23 (gI S23 (49 + ((gI S 34 6)).toNatClampNeg) 7)) fun r25 S26 => some ((gI S 34 6), (uI (uI (uI S26 (49 + ((gI S 34 6)).toNatClampNeg) 4 (r22 + r25)) (49 + ((gI S 34 6)).toNatClampNeg) 5 (0 : Int32)) 34 6 ((gI (uI (uI S26 (49 + ((gI S 34 6)).toNatClampNeg) 4 (r22 + r25)) (49 + ((gI S 34 6)).toNatClampNeg) 5 (0 : Int32)) 34 6) + (1 : Int32)))))))))))
theorem c_T_addStreet (w : Wd) (d : Nat) (c : cx)   (S : hs) (x1 : Int32) (x2 : Int32) (x3 : Int32) (x4 : Int32)  {z : Int32 × hs} (H : f_T_addStreet S x1 x2 x3 x4 = some z) : Cl w (d + 2) m_T_addStreet [.ref 34, .int x1, .int x2, .int x3, .int x4] (mk c S) (some (.int z.1)) (mk c z.2) := by
  refine Cl.of (Nat.le_refl _) (Nat.le_refl _) (by decide +kernel) (Nat.le_of_ble_eq_true rfl) ?_
  unfold f_T_addStreet at H
  generalize hN (mk c S) = n0
  generalize hZ (mk c S) = z0
  show J w (d + 2) m_T_addStreet (n0, z0, some (.int z.1), mk c z.2) 0 [some (.ref 34), some (.int x1), some (.int x2), some (.int x3), some (.int x4), none, none] [] (mk c S)
  refine J.run b_T_addStreet_0_5 k_T_addStreet_0_5 rfl (And.intro (okO_st (S := S) rfl) (show J w (d + 2) m_T_addStreet (n0, z0, some (.int z.1), mk c z.2) 10 [some (.ref 34), some (.int x1), some (.int x2), some (.int x3), some (.int x4), some (.int (gI S 34 6)), none] [.int (20 : Int32), .int (gI S 34 6)] (mk c S) from ?_))
  refine J.cge (tgt := 29) d_T_addStreet_10 rfl (fun q1 => ?_) (fun q1 => ?_)
  · have H := ite_t H q1
    refine J.run b_T_addStreet_29_1 k_T_addStreet_29_1 rfl (show J w (d + 2) m_T_addStreet (n0, z0, some (.int z.1), mk c z.2) 31 [some (.ref 34), some (.int x1), some (.int x2), some (.int x3), some (.int x4), some (.int (gI S 34 6)), none] [.int (-2 : Int32)] (mk c S) from ?_)
    obtain rfl := some_e H
    exact J.iret d_T_addStreet_31 rfl rfl
  · have H := ite_f H q1
    refine J.run b_T_addStreet_13_2 k_T_addStreet_13_2 rfl (show J w (d + 2) m_T_addStreet (n0, z0, some (.int z.1), mk c z.2) 15 [some (.ref 34), some (.int x1), some (.int x2), some (.int x3), some (.int x4), some (.int (gI S 34 6)), none] [.int x1, .ref 34] (mk c S) from ?_)
    obtain ⟨r2, S3, h4, H⟩ := bd_e H
    refine J.callV (y := m_T_hasCrossing) (av := [.int x1]) (rest := []) (q := 34) l_T_57 d_T_addStreet_15 (isC_st rfl rfl) (c_T_hasCrossing w (d + 0) c  S x1 h4) rfl (Nat.le_of_ble_eq_true rfl) ⟨Nat.le_refl _, Nat.le_refl _⟩ (show J w (d + 2) m_T_addStreet (n0, z0, some (.int z.1), mk c z.2) 18 [some (.ref 34), some (.int x1), some (.int x2), some (.int x3), some (.int x4), some (.int (gI S 34 6)), none] [.int r2] (mk c S3) from ?_)
    refine J.zeq (tgt := 29) d_T_addStreet_18 rfl (fun q5 => ?_) (fun q5 => ?_)
    · have H := ite_t H q5
      refine J.run b_T_addStreet_29_1 k_T_addStreet_29_1 rfl (show J w (d + 2) m_T_addStreet (n0, z0, some (.int z.1), mk c z.2) 31 [some (.ref 34), some (.int x1), some (.int x2), some (.int x3), some (.int x4), some (.int (gI S 34 6)), none] [.int (-2 : Int32)] (mk c S3) from ?_)
      obtain rfl := some_e H
      exact J.iret d_T_addStreet_31 rfl rfl
    · have H := ite_f H q5
      refine J.run b_T_addStreet_21_2 k_T_addStreet_21_2 rfl (show J w (d + 2) m_T_addStreet (n0, z0, some (.int z.1), mk c z.2) 23 [some (.ref 34), some (.int x1), some (.int x2), some (.int x3), some (.int x4), some (.int (gI S 34 6)), none] [.int x2, .ref 34] (mk c S3) from ?_)
      obtain ⟨r6, S7, h8, H⟩ := bd_e H
      refine J.callV (y := m_T_hasCrossing) (av := [.int x2]) (rest := []) (q := 34) l_T_57 d_T_addStreet_23 (isC_st rfl rfl) (c_T_hasCrossing w (d + 0) c  S3 x2 h8) rfl (Nat.le_of_ble_eq_true rfl) ⟨Nat.le_refl _, Nat.le_refl _⟩ (show J w (d + 2) m_T_addStreet (n0, z0, some (.int z.1), mk c z.2) 26 [some (.ref 34), some (.int x1), some (.int x2), some (.int x3), some (.int x4), some (.int (gI S 34 6)), none] [.int r6] (mk c S7) from ?_)
      refine J.zne (tgt := 32) d_T_addStreet_26 rfl (fun q9 => ?_) (fun q9 => ?_)
      · have H := ite_f H q9
        obtain ⟨g10, H⟩ := ck_e H
        refine J.run b_T_addStreet_32_20 k_T_addStreet_32_20 rfl (And.intro (okO_st (S := S7) rfl) (And.intro (okQ_st (S := S7) (k := 23) (n := 20) rfl rfl g10) (And.intro (okB_row (S := S7) (b := 49) (cnt := 20) (n := 8) rfl (inb_lt g10) rfl) (And.intro (okB_row (S := (uI S7 (49 + ((gI S 34 6)).toNatClampNeg) 0 x1)) (b := 49) (cnt := 20) (n := 8) rfl (inb_lt g10) rfl) (And.intro (okB_row (S := (uI (uI S7 (49 + ((gI S 34 6)).toNatClampNeg) 0 x1) (49 + ((gI S 34 6)).toNatClampNeg) 1 x2)) (b := 49) (cnt := 20) (n := 8) rfl (inb_lt g10) rfl) (show J w (d + 2) m_T_addStreet (n0, z0, some (.int z.1), mk c z.2) 61 [some (.ref 34), some (.int x1), some (.int x2), some (.int x3), some (.int x4), some (.int (gI S 34 6)), some (.ref (49 + ((gI S 34 6)).toNatClampNeg))] [.int x4, .int (3 : Int32), .ref (49 + ((gI S 34 6)).toNatClampNeg)] (mk c (uI (uI (uI S7 (49 + ((gI S 34 6)).toNatClampNeg) 0 x1) (49 + ((gI S 34 6)).toNatClampNeg) 1 x2) (49 + ((gI S 34 6)).toNatClampNeg) 2 x3)) from ?_))))))
        refine J.zeq (tgt := 68) d_T_addStreet_61 rfl (fun q11 => ?_) (fun q11 => ?_)
        · have H := ite_t H q11
          obtain ⟨g12, H⟩ := ck_e H
          obtain ⟨g13, H⟩ := ck_e H
          refine J.run b_T_addStreet_68_39 k_T_addStreet_68_39 rfl (And.intro (okB_row (S := (uI (uI (uI S7 (49 + ((gI S 34 6)).toNatClampNeg) 0 x1) (49 + ((gI S 34 6)).toNatClampNeg) 1 x2) (49 + ((gI S 34 6)).toNatClampNeg) 2 x3)) (b := 49) (cnt := 20) (n := 8) rfl (inb_lt g10) rfl) (And.intro (okO_st (S := (uI (uI (uI (uI S7 (49 + ((gI S 34 6)).toNatClampNeg) 0 x1) (49 + ((gI S 34 6)).toNatClampNeg) 1 x2) (49 + ((gI S 34 6)).toNatClampNeg) 2 x3) (49 + ((gI S 34 6)).toNatClampNeg) 3 (0 : Int32))) rfl) (And.intro (okQ_st (S := (uI (uI (uI (uI S7 (49 + ((gI S 34 6)).toNatClampNeg) 0 x1) (49 + ((gI S 34 6)).toNatClampNeg) 1 x2) (49 + ((gI S 34 6)).toNatClampNeg) 2 x3) (49 + ((gI S 34 6)).toNatClampNeg) 3 (0 : Int32))) (k := 23) (n := 12) rfl rfl g12) (And.intro (okA_row (S := (uI (uI (uI (uI S7 (49 + ((gI S 34 6)).toNatClampNeg) 0 x1) (49 + ((gI S 34 6)).toNatClampNeg) 1 x2) (49 + ((gI S 34 6)).toNatClampNeg) 2 x3) (49 + ((gI S 34 6)).toNatClampNeg) 3 (0 : Int32))) (b := 36) (cnt := 12) (n := 2) rfl (inb_lt g12) rfl) (And.intro (okO_st (S := (uI (uI (uI (uI S7 (49 + ((gI S 34 6)).toNatClampNeg) 0 x1) (49 + ((gI S 34 6)).toNatClampNeg) 1 x2) (49 + ((gI S 34 6)).toNatClampNeg) 2 x3) (49 + ((gI S 34 6)).toNatClampNeg) 3 (0 : Int32))) rfl) (And.intro (okQ_st (S := (uI (uI (uI (uI S7 (49 + ((gI S 34 6)).toNatClampNeg) 0 x1) (49 + ((gI S 34 6)).toNatClampNeg) 1 x2) (49 + ((gI S 34 6)).toNatClampNeg) 2 x3) (49 + ((gI S 34 6)).toNatClampNeg) 3 (0 : Int32))) (k := 23) (n := 12) rfl rfl g13) (And.intro (okA_row (S := (uI (uI (uI (uI S7 (49 + ((gI S 34 6)).toNatClampNeg) 0 x1) (49 + ((gI S 34 6)).toNatClampNeg) 1 x2) (49 + ((gI S 34 6)).toNatClampNeg) 2 x3) (49 + ((gI S 34 6)).toNatClampNeg) 3 (0 : Int32))) (b := 36) (cnt := 12) (n := 2) rfl (inb_lt g13) rfl) (And.intro (okB_row (S := (uI (uI (uI (uI S7 (49 + ((gI S 34 6)).toNatClampNeg) 0 x1) (49 + ((gI S 34 6)).toNatClampNeg) 1 x2) (49 + ((gI S 34 6)).toNatClampNeg) 2 x3) (49 + ((gI S 34 6)).toNatClampNeg) 3 (0 : Int32))) (b := 49) (cnt := 20) (n := 8) rfl (inb_lt g10) rfl) (And.intro (okO_st (S := (uI (uI (uI (uI (uI S7 (49 + ((gI S 34 6)).toNatClampNeg) 0 x1) (49 + ((gI S 34 6)).toNatClampNeg) 1 x2) (49 + ((gI S 34 6)).toNatClampNeg) 2 x3) (49 + ((gI S 34 6)).toNatClampNeg) 3 (0 : Int32)) (49 + ((gI S 34 6)).toNatClampNeg) 6 ((gI (uI (uI (uI (uI S7 (49 + ((gI S 34 6)).toNatClampNeg) 0 x1) (49 + ((gI S 34 6)).toNatClampNeg) 1 x2) (49 + ((gI S 34 6)).toNatClampNeg) 2 x3) (49 + ((gI S 34 6)).toNatClampNeg) 3 (0 : Int32)) (36 + (x2).toNatClampNeg) 0) - (gI (uI (uI (uI (uI S7 (49 + ((gI S 34 6)).toNatClampNeg) 0 x1) (49 + ((gI S 34 6)).toNatClampNeg) 1 x2) (49 + ((gI S 34 6)).toNatClampNeg) 2 x3) (49 + ((gI S 34 6)).toNatClampNeg) 3 (0 : Int32)) (36 + (x1).toNatClampNeg) 0)))) rfl) (And.intro (okQ_st (S := (uI (uI (uI (uI (uI S7 (49 + ((gI S 34 6)).toNatClampNeg) 0 x1) (49 + ((gI S 34 6)).toNatClampNeg) 1 x2) (49 + ((gI S 34 6)).toNatClampNeg) 2 x3) (49 + ((gI S 34 6)).toNatClampNeg) 3 (0 : Int32)) (49 + ((gI S 34 6)).toNatClampNeg) 6 ((gI (uI (uI (uI (uI S7 (49 + ((gI S 34 6)).toNatClampNeg) 0 x1) (49 + ((gI S 34 6)).toNatClampNeg) 1 x2) (49 + ((gI S 34 6)).toNatClampNeg) 2 x3) (49 + ((gI S 34 6)).toNatClampNeg) 3 (0 : Int32)) (36 + (x2).toNatClampNeg) 0) - (gI (uI (uI (uI (uI S7 (49 + ((gI S 34 6)).toNatClampNeg) 0 x1) (49 + ((gI S 34 6)).toNatClampNeg) 1 x2) (49 + ((gI S 34 6)).toNatClampNeg) 2 x3) (49 + ((gI S 34 6)).toNatClampNeg) 3 (0 : Int32)) (36 + (x1).toNatClampNeg) 0)))) (k := 23) (n := 12) rfl rfl g12) (And.intro (okA_row (S := (uI (uI (uI (uI (uI S7 (49 + ((gI S 34 6)).toNatClampNeg) 0 x1) (49 + ((gI S 34 6)).toNatClampNeg) 1 x2) (49 + ((gI S 34 6)).toNatClampNeg) 2 x3) (49 + ((gI S 34 6)).toNatClampNeg) 3 (0 : Int32)) (49 + ((gI S 34 6)).toNatClampNeg) 6 ((gI (uI (uI (uI (uI S7 (49 + ((gI S 34 6)).toNatClampNeg) 0 x1) (49 + ((gI S 34 6)).toNatClampNeg) 1 x2) (49 + ((gI S 34 6)).toNatClampNeg) 2 x3) (49 + ((gI S 34 6)).toNatClampNeg) 3 (0 : Int32)) (36 + (x2).toNatClampNeg) 0) - (gI (uI (uI (uI (uI S7 (49 + ((gI S 34 6)).toNatClampNeg) 0 x1) (49 + ((gI S 34 6)).toNatClampNeg) 1 x2) (49 + ((gI S 34 6)).toNatClampNeg) 2 x3) (49 + ((gI S 34 6)).toNatClampNeg) 3 (0 : Int32)) (36 + (x1).toNatClampNeg) 0)))) (b := 36) (cnt := 12) (n := 2) rfl (inb_lt g12) rfl) (And.intro (okO_st (S := (uI (uI (uI (uI (uI S7 (49 + ((gI S 34 6)).toNatClampNeg) 0 x1) (49 + ((gI S 34 6)).toNatClampNeg) 1 x2) (49 + ((gI S 34 6)).toNatClampNeg) 2 x3) (49 + ((gI S 34 6)).toNatClampNeg) 3 (0 : Int32)) (49 + ((gI S 34 6)).toNatClampNeg) 6 ((gI (uI (uI (uI (uI S7 (49 + ((gI S 34 6)).toNatClampNeg) 0 x1) (49 + ((gI S 34 6)).toNatClampNeg) 1 x2) (49 + ((gI S 34 6)).toNatClampNeg) 2 x3) (49 + ((gI S 34 6)).toNatClampNeg) 3 (0 : Int32)) (36 + (x2).toNatClampNeg) 0) - (gI (uI (uI (uI (uI S7 (49 + ((gI S 34 6)).toNatClampNeg) 0 x1) (49 + ((gI S 34 6)).toNatClampNeg) 1 x2) (49 + ((gI S 34 6)).toNatClampNeg) 2 x3) (49 + ((gI S 34 6)).toNatClampNeg) 3 (0 : Int32)) (36 + (x1).toNatClampNeg) 0)))) rfl) (And.intro (okQ_st (S := (uI (uI (uI (uI (uI S7 (49 + ((gI S 34 6)).toNatClampNeg) 0 x1) (49 + ((gI S 34 6)).toNatClampNeg) 1 x2) (49 + ((gI S 34 6)).toNatClampNeg) 2 x3) (49 + ((gI S 34 6)).toNatClampNeg) 3 (0 : Int32)) (49 + ((gI S 34 6)).toNatClampNeg) 6 ((gI (uI (uI (uI (uI S7 (49 + ((gI S 34 6)).toNatClampNeg) 0 x1) (49 + ((gI S 34 6)).toNatClampNeg) 1 x2) (49 + ((gI S 34 6)).toNatClampNeg) 2 x3) (49 + ((gI S 34 6)).toNatClampNeg) 3 (0 : Int32)) (36 + (x2).toNatClampNeg) 0) - (gI (uI (uI (uI (uI S7 (49 + ((gI S 34 6)).toNatClampNeg) 0 x1) (49 + ((gI S 34 6)).toNatClampNeg) 1 x2) (49 + ((gI S 34 6)).toNatClampNeg) 2 x3) (49 + ((gI S 34 6)).toNatClampNeg) 3 (0 : Int32)) (36 + (x1).toNatClampNeg) 0)))) (k := 23) (n := 12) rfl rfl g13) (And.intro (okA_row (S := (uI (uI (uI (uI (uI S7 (49 + ((gI S 34 6)).toNatClampNeg) 0 x1) (49 + ((gI S 34 6)).toNatClampNeg) 1 x2) (49 + ((gI S 34 6)).toNatClampNeg) 2 x3) (49 + ((gI S 34 6)).toNatClampNeg) 3 (0 : Int32)) (49 + ((gI S 34 6)).toNatClampNeg) 6 ((gI (uI (uI (uI (uI S7 (49 + ((gI S 34 6)).toNatClampNeg) 0 x1) (49 + ((gI S 34 6)).toNatClampNeg) 1 x2) (49 + ((gI S 34 6)).toNatClampNeg) 2 x3) (49 + ((gI S 34 6)).toNatClampNeg) 3 (0 : Int32)) (36 + (x2).toNatClampNeg) 0) - (gI (uI (uI (uI (uI S7 (49 + ((gI S 34 6)).toNatClampNeg) 0 x1) (49 + ((gI S 34 6)).toNatClampNeg) 1 x2) (49 + ((gI S 34 6)).toNatClampNeg) 2 x3) (49 + ((gI S 34 6)).toNatClampNeg) 3 (0 : Int32)) (36 + (x1).toNatClampNeg) 0)))) (b := 36) (cnt := 12) (n := 2) rfl (inb_lt g13) rfl) (And.intro (okB_row (S := (uI (uI (uI (uI (uI S7 (49 + ((gI S 34 6)).toNatClampNeg) 0 x1) (49 + ((gI S 34 6)).toNatClampNeg) 1 x2) (49 + ((gI S 34 6)).toNatClampNeg) 2 x3) (49 + ((gI S 34 6)).toNatClampNeg) 3 (0 : Int32)) (49 + ((gI S 34 6)).toNatClampNeg) 6 ((gI (uI (uI (uI (uI S7 (49 + ((gI S 34 6)).toNatClampNeg) 0 x1) (49 + ((gI S 34 6)).toNatClampNeg) 1 x2) (49 + ((gI S 34 6)).toNatClampNeg) 2 x3) (49 + ((gI S 34 6)).toNatClampNeg) 3 (0 : Int32)) (36 + (x2).toNatClampNeg) 0) - (gI (uI (uI (uI (uI S7 (49 + ((gI S 34 6)).toNatClampNeg) 0 x1) (49 + ((gI S 34 6)).toNatClampNeg) 1 x2) (49 + ((gI S 34 6)).toNatClampNeg) 2 x3) (49 + ((gI S 34 6)).toNatClampNeg) 3 (0 : Int32)) (36 + (x1).toNatClampNeg) 0)))) (b := 49) (cnt := 20) (n := 8) rfl (inb_lt g10) rfl) (And.intro (okA_row (S := (uI (uI (uI (uI (uI (uI S7 (49 + ((gI S 34 6)).toNatClampNeg) 0 x1) (49 + ((gI S 34 6)).toNatClampNeg) 1 x2) (49 + ((gI S 34 6)).toNatClampNeg) 2 x3) (49 + ((gI S 34 6)).toNatClampNeg) 3 (0 : Int32)) (49 + ((gI S 34 6)).toNatClampNeg) 6 ((gI (uI (uI (uI (uI S7 (49 + ((gI S 34 6)).toNatClampNeg) 0 x1) (49 + ((gI S 34 6)).toNatClampNeg) 1 x2) (49 + ((gI S 34 6)).toNatClampNeg) 2 x3) (49 + ((gI S 34 6)).toNatClampNeg) 3 (0 : Int32)) (36 + (x2).toNatClampNeg) 0) - (gI (uI (uI (uI (uI S7 (49 + ((gI S 34 6)).toNatClampNeg) 0 x1) (49 + ((gI S 34 6)).toNatClampNeg) 1 x2) (49 + ((gI S 34 6)).toNatClampNeg) 2 x3) (49 + ((gI S 34 6)).toNatClampNeg) 3 (0 : Int32)) (36 + (x1).toNatClampNeg) 0))) (49 + ((gI S 34 6)).toNatClampNeg) 7 ((gI (uI (uI (uI (uI (uI S7 (49 + ((gI S 34 6)).toNatClampNeg) 0 x1) (49 + ((gI S 34 6)).toNatClampNeg) 1 x2) (49 + ((gI S 34 6)).toNatClampNeg) 2 x3) (49 + ((gI S 34 6)).toNatClampNeg) 3 (0 : Int32)) (49 + ((gI S 34 6)).toNatClampNeg) 6 ((gI (uI (uI (uI (uI S7 (49 + ((gI S 34 6)).toNatClampNeg) 0 x1) (49 + ((gI S 34 6)).toNatClampNeg) 1 x2) (49 + ((gI S 34 6)).toNatClampNeg) 2 x3) (49 + ((gI S 34 6)).toNatClampNeg) 3 (0 : Int32)) (36 + (x2).toNatClampNeg) 0) - (gI (uI (uI (uI (uI S7 (49 + ((gI S 34 6)).toNatClampNeg) 0 x1) (49 + ((gI S 34 6)).toNatClampNeg) 1 x2) (49 + ((gI S 34 6)).toNatClampNeg) 2 x3) (49 + ((gI S 34 6)).toNatClampNeg) 3 (0 : Int32)) (36 + (x1).toNatClampNeg) 0))) (36 + (x2).toNatClampNeg) 1) - (gI (uI (uI (uI (uI (uI S7 (49 + ((gI S 34 6)).toNatClampNeg) 0 x1) (49 + ((gI S 34 6)).toNatClampNeg) 1 x2) (49 + ((gI S 34 6)).toNatClampNeg) 2 x3) (49 + ((gI S 34 6)).toNatClampNeg) 3 (0 : Int32)) (49 + ((gI S 34 6)).toNatClampNeg) 6 ((gI (uI (uI (uI (uI S7 (49 + ((gI S 34 6)).toNatClampNeg) 0 x1) (49 + ((gI S 34 6)).toNatClampNeg) 1 x2) (49 + ((gI S 34 6)).toNatClampNeg) 2 x3) (49 + ((gI S 34 6)).toNatClampNeg) 3 (0 : Int32)) (36 + (x2).toNatClampNeg) 0) - (gI (uI (uI (uI (uI S7 (49 + ((gI S 34 6)).toNatClampNeg) 0 x1) (49 + ((gI S 34 6)).toNatClampNeg) 1 x2) (49 + ((gI S 34 6)).toNatClampNeg) 2 x3) (49 + ((gI S 34 6)).toNatClampNeg) 3 (0 : Int32)) (36 + (x1).toNatClampNeg) 0))) (36 + (x1).toNatClampNeg) 1)))) (b := 49) (cnt := 20) (n := 8) rfl (inb_lt g10) rfl) (show J w (d + 2) m_T_addStreet (n0, z0, some (.int z.1), mk c z.2) 122 [some (.ref 34), some (.int x1), some (.int x2), some (.int x3), some (.int x4), some (.int (gI S 34 6)), some (.ref (49 + ((gI S 34 6)).toNatClampNeg))] [.int (gI (uI (uI (uI (uI (uI (uI S7 (49 + ((gI S 34 6)).toNatClampNeg) 0 x1) (49 + ((gI S 34 6)).toNatClampNeg) 1 x2) (49 + ((gI S 34 6)).toNatClampNeg) 2 x3) (49 + ((gI S 34 6)).toNatClampNeg) 3 (0 : Int32)) (49 + ((gI S 34 6)).toNatClampNeg) 6 ((gI (uI (uI (uI (uI S7 (49 + ((gI S 34 6)).toNatClampNeg) 0 x1) (49 + ((gI S 34 6)).toNatClampNeg) 1 x2) (49 + ((gI S 34 6)).toNatClampNeg) 2 x3) (49 + ((gI S 34 6)).toNatClampNeg) 3 (0 : Int32)) (36 + (x2).toNatClampNeg) 0) - (gI (uI (uI (uI (uI S7 (49 + ((gI S 34 6)).toNatClampNeg) 0 x1) (49 + ((gI S 34 6)).toNatClampNeg) 1 x2) (49 + ((gI S 34 6)).toNatClampNeg) 2 x3) (49 + ((gI S 34 6)).toNatClampNeg) 3 (0 : Int32)) (36 + (x1).toNatClampNeg) 0))) (49 + ((gI S 34 6)).toNatClampNeg) 7 ((gI (uI (uI (uI (uI (uI S7 (49 + ((gI S 34 6)).toNatClampNeg) 0 x1) (49 + ((gI S 34 6)).toNatClampNeg) 1 x2) (49 + ((gI S 34 6)).toNatClampNeg) 2 x3) (49 + ((gI S 34 6)).toNatClampNeg) 3 (0 : Int32)) (49 + ((gI S 34 6)).toNatClampNeg) 6 ((gI (uI (uI (uI (uI S7 (49 + ((gI S 34 6)).toNatClampNeg) 0 x1) (49 + ((gI S 34 6)).toNatClampNeg) 1 x2) (49 + ((gI S 34 6)).toNatClampNeg) 2 x3) (49 + ((gI S 34 6)).toNatClampNeg) 3 (0 : Int32)) (36 + (x2).toNatClampNeg) 0) - (gI (uI (uI (uI (uI S7 (49 + ((gI S 34 6)).toNatClampNeg) 0 x1) (49 + ((gI S 34 6)).toNatClampNeg) 1 x2) (49 + ((gI S 34 6)).toNatClampNeg) 2 x3) (49 + ((gI S 34 6)).toNatClampNeg) 3 (0 : Int32)) (36 + (x1).toNatClampNeg) 0))) (36 + (x2).toNatClampNeg) 1) - (gI (uI (uI (uI (uI (uI S7 (49 + ((gI S 34 6)).toNatClampNeg) 0 x1) (49 + ((gI S 34 6)).toNatClampNeg) 1 x2) (49 + ((gI S 34 6)).toNatClampNeg) 2 x3) (49 + ((gI S 34 6)).toNatClampNeg) 3 (0 : Int32)) (49 + ((gI S 34 6)).toNatClampNeg) 6 ((gI (uI (uI (uI (uI S7 (49 + ((gI S 34 6)).toNatClampNeg) 0 x1) (49 + ((gI S 34 6)).toNatClampNeg) 1 x2) (49 + ((gI S 34 6)).toNatClampNeg) 2 x3) (49 + ((gI S 34 6)).toNatClampNeg) 3 (0 : Int32)) (36 + (x2).toNatClampNeg) 0) - (gI (uI (uI (uI (uI S7 (49 + ((gI S 34 6)).toNatClampNeg) 0 x1) (49 + ((gI S 34 6)).toNatClampNeg) 1 x2) (49 + ((gI S 34 6)).toNatClampNeg) 2 x3) (49 + ((gI S 34 6)).toNatClampNeg) 3 (0 : Int32)) (36 + (x1).toNatClampNeg) 0))) (36 + (x1).toNatClampNeg) 1))) (49 + ((gI S 34 6)).toNatClampNeg) 6), .int (4 : Int32), .ref (49 + ((gI S 34 6)).toNatClampNeg)] (mk c (uI (uI (uI (uI (uI (uI S7 (49 + ((gI S 34 6)).toNatClampNeg) 0 x1) (49 + ((gI S 34 6)).toNatClampNeg) 1 x2) (49 + ((gI S 34 6)).toNatClampNeg) 2 x3) (49 + ((gI S 34 6)).toNatClampNeg) 3 (0 : Int32)) (49 + ((gI S 34 6)).toNatClampNeg) 6 ((gI (uI (uI (uI (uI S7 (49 + ((gI S 34 6)).toNatClampNeg) 0 x1) (49 + ((gI S 34 6)).toNatClampNeg) 1 x2) (49 + ((gI S 34 6)).toNatClampNeg) 2 x3) (49 + ((gI S 34 6)).toNatClampNeg) 3 (0 : Int32)) (36 + (x2).toNatClampNeg) 0) - (gI (uI (uI (uI (uI S7 (49 + ((gI S 34 6)).toNatClampNeg) 0 x1) (49 + ((gI S 34 6)).toNatClampNeg) 1 x2) (49 + ((gI S 34 6)).toNatClampNeg) 2 x3) (49 + ((gI S 34 6)).toNatClampNeg) 3 (0 : Int32)) (36 + (x1).toNatClampNeg) 0))) (49 + ((gI S 34 6)).toNatClampNeg) 7 ((gI (uI (uI (uI (uI (uI S7 (49 + ((gI S 34 6)).toNatClampNeg) 0 x1) (49 + ((gI S 34 6)).toNatClampNeg) 1 x2) (49 + ((gI S 34 6)).toNatClampNeg) 2 x3) (49 + ((gI S 34 6)).toNatClampNeg) 3 (0 : Int32)) (49 + ((gI S 34 6)).toNatClampNeg) 6 ((gI (uI (uI (uI (uI S7 (49 + ((gI S 34 6)).toNatClampNeg) 0 x1) (49 + ((gI S 34 6)).toNatClampNeg) 1 x2) (49 + ((gI S 34 6)).toNatClampNeg) 2 x3) (49 + ((gI S 34 6)).toNatClampNeg) 3 (0 : Int32)) (36 + (x2).toNatClampNeg) 0) - (gI (uI (uI (uI (uI S7 (49 + ((gI S 34 6)).toNatClampNeg) 0 x1) (49 + ((gI S 34 6)).toNatClampNeg) 1 x2) (49 + ((gI S 34 6)).toNatClampNeg) 2 x3) (49 + ((gI S 34 6)).toNatClampNeg) 3 (0 : Int32)) (36 + (x1).toNatClampNeg) 0))) (36 + (x2).toNatClampNeg) 1) - (gI (uI (uI (uI (uI (uI S7 (49 + ((gI S 34 6)).toNatClampNeg) 0 x1) (49 + ((gI S 34 6)).toNatClampNeg) 1 x2) (49 + ((gI S 34 6)).toNatClampNeg) 2 x3) (49 + ((gI S 34 6)).toNatClampNeg) 3 (0 : Int32)) (49 + ((gI S 34 6)).toNatClampNeg) 6 ((gI (uI (uI (uI (uI S7 (49 + ((gI S 34 6)).toNatClampNeg) 0 x1) (49 + ((gI S 34 6)).toNatClampNeg) 1 x2) (49 + ((gI S 34 6)).toNatClampNeg) 2 x3) (49 + ((gI S 34 6)).toNatClampNeg) 3 (0 : Int32)) (36 + (x2).toNatClampNeg) 0) - (gI (uI (uI (uI (uI S7 (49 + ((gI S 34 6)).toNatClampNeg) 0 x1) (49 + ((gI S 34 6)).toNatClampNeg) 1 x2) (49 + ((gI S 34 6)).toNatClampNeg) 2 x3) (49 + ((gI S 34 6)).toNatClampNeg) 3 (0 : Int32)) (36 + (x1).toNatClampNeg) 0))) (36 + (x1).toNatClampNeg) 1)))) from ?_)))))))))))))))))
          obtain ⟨r14, S15, h16, H⟩ := bd_e H
          refine J.callS (y := m_Ma_abs) (av := [.int (gI (uI (uI (uI (uI (uI (uI S7 (49 + ((gI S 34 6)).toNatClampNeg) 0 x1) (49 + ((gI S 34 6)).toNatClampNeg) 1 x2) (49 + ((gI S 34 6)).toNatClampNeg) 2 x3) (49 + ((gI S 34 6)).toNatClampNeg) 3 (0 : Int32)) (49 + ((gI S 34 6)).toNatClampNeg) 6 ((gI (uI (uI (uI (uI S7 (49 + ((gI S 34 6)).toNatClampNeg) 0 x1) (49 + ((gI S 34 6)).toNatClampNeg) 1 x2) (49 + ((gI S 34 6)).toNatClampNeg) 2 x3) (49 + ((gI S 34 6)).toNatClampNeg) 3 (0 : Int32)) (36 + (x2).toNatClampNeg) 0) - (gI (uI (uI (uI (uI S7 (49 + ((gI S 34 6)).toNatClampNeg) 0 x1) (49 + ((gI S 34 6)).toNatClampNeg) 1 x2) (49 + ((gI S 34 6)).toNatClampNeg) 2 x3) (49 + ((gI S 34 6)).toNatClampNeg) 3 (0 : Int32)) (36 + (x1).toNatClampNeg) 0))) (49 + ((gI S 34 6)).toNatClampNeg) 7 ((gI (uI (uI (uI (uI (uI S7 (49 + ((gI S 34 6)).toNatClampNeg) 0 x1) (49 + ((gI S 34 6)).toNatClampNeg) 1 x2) (49 + ((gI S 34 6)).toNatClampNeg) 2 x3) (49 + ((gI S 34 6)).toNatClampNeg) 3 (0 : Int32)) (49 + ((gI S 34 6)).toNatClampNeg) 6 ((gI (uI (uI (uI (uI S7 (49 + ((gI S 34 6)).toNatClampNeg) 0 x1) (49 + ((gI S 34 6)).toNatClampNeg) 1 x2) (49 + ((gI S 34 6)).toNatClampNeg) 2 x3) (49 + ((gI S 34 6)).toNatClampNeg) 3 (0 : Int32)) (36 + (x2).toNatClampNeg) 0) - (gI (uI (uI (uI (uI S7 (49 + ((gI S 34 6)).toNatClampNeg) 0 x1) (49 + ((gI S 34 6)).toNatClampNeg) 1 x2) (49 + ((gI S 34 6)).toNatClampNeg) 2 x3) (49 + ((gI S 34 6)).toNatClampNeg) 3 (0 : Int32)) (36 + (x1).toNatClampNeg) 0))) (36 + (x2).toNatClampNeg) 1) - (gI (uI (uI (uI (uI (uI S7 (49 + ((gI S 34 6)).toNatClampNeg) 0 x1) (49 + ((gI S 34 6)).toNatClampNeg) 1 x2) (49 + ((gI S 34 6)).toNatClampNeg) 2 x3) (49 + ((gI S 34 6)).toNatClampNeg) 3 (0 : Int32)) (49 + ((gI S 34 6)).toNatClampNeg) 6 ((gI (uI (uI (uI (uI S7 (49 + ((gI S 34 6)).toNatClampNeg) 0 x1) (49 + ((gI S 34 6)).toNatClampNeg) 1 x2) (49 + ((gI S 34 6)).toNatClampNeg) 2 x3) (49 + ((gI S 34 6)).toNatClampNeg) 3 (0 : Int32)) (36 + (x2).toNatClampNeg) 0) - (gI (uI (uI (uI (uI S7 (49 + ((gI S 34 6)).toNatClampNeg) 0 x1) (49 + ((gI S 34 6)).toNatClampNeg) 1 x2) (49 + ((gI S 34 6)).toNatClampNeg) 2 x3) (49 + ((gI S 34 6)).toNatClampNeg) 3 (0 : Int32)) (36 + (x1).toNatClampNeg) 0))) (36 + (x1).toNatClampNeg) 1))) (49 + ((gI S 34 6)).toNatClampNeg) 6)]) (rest := [.int (4 : Int32), .ref (49 + ((gI S 34 6)).toNatClampNeg)]) l_T_60 d_T_addStreet_122 (c_Ma_abs w (d + 0) c  (uI (uI (uI (uI (uI (uI S7 (49 + ((gI S 34 6)).toNatClampNeg) 0 x1) (49 + ((gI S 34 6)).toNatClampNeg) 1 x2) (49 + ((gI S 34 6)).toNatClampNeg) 2 x3) (49 + ((gI S 34 6)).toNatClampNeg) 3 (0 : Int32)) (49 + ((gI S 34 6)).toNatClampNeg) 6 ((gI (uI (uI (uI (uI S7 (49 + ((gI S 34 6)).toNatClampNeg) 0 x1) (49 + ((gI S 34 6)).toNatClampNeg) 1 x2) (49 + ((gI S 34 6)).toNatClampNeg) 2 x3) (49 + ((gI S 34 6)).toNatClampNeg) 3 (0 : Int32)) (36 + (x2).toNatClampNeg) 0) - (gI (uI (uI (uI (uI S7 (49 + ((gI S 34 6)).toNatClampNeg) 0 x1) (49 + ((gI S 34 6)).toNatClampNeg) 1 x2) (49 + ((gI S 34 6)).toNatClampNeg) 2 x3) (49 + ((gI S 34 6)).toNatClampNeg) 3 (0 : Int32)) (36 + (x1).toNatClampNeg) 0))) (49 + ((gI S 34 6)).toNatClampNeg) 7 ((gI (uI (uI (uI (uI (uI S7 (49 + ((gI S 34 6)).toNatClampNeg) 0 x1) (49 + ((gI S 34 6)).toNatClampNeg) 1 x2) (49 + ((gI S 34 6)).toNatClampNeg) 2 x3) (49 + ((gI S 34 6)).toNatClampNeg) 3 (0 : Int32)) (49 + ((gI S 34 6)).toNatClampNeg) 6 ((gI (uI (uI (uI (uI S7 (49 + ((gI S 34 6)).toNatClampNeg) 0 x1) (49 + ((gI S 34 6)).toNatClampNeg) 1 x2) (49 + ((gI S 34 6)).toNatClampNeg) 2 x3) (49 + ((gI S 34 6)).toNatClampNeg) 3 (0 : Int32)) (36 + (x2).toNatClampNeg) 0) - (gI (uI (uI (uI (uI S7 (49 + ((gI S 34 6)).toNatClampNeg) 0 x1) (49 + ((gI S 34 6)).toNatClampNeg) 1 x2) (49 + ((gI S 34 6)).toNatClampNeg) 2 x3) (49 + ((gI S 34 6)).toNatClampNeg) 3 (0 : Int32)) (36 + (x1).toNatClampNeg) 0))) (36 + (x2).toNatClampNeg) 1) - (gI (uI (uI (uI (uI (uI S7 (49 + ((gI S 34 6)).toNatClampNeg) 0 x1) (49 + ((gI S 34 6)).toNatClampNeg) 1 x2) (49 + ((gI S 34 6)).toNatClampNeg) 2 x3) (49 + ((gI S 34 6)).toNatClampNeg) 3 (0 : Int32)) (49 + ((gI S 34 6)).toNatClampNeg) 6 ((gI (uI (uI (uI (uI S7 (49 + ((gI S 34 6)).toNatClampNeg) 0 x1) (49 + ((gI S 34 6)).toNatClampNeg) 1 x2) (49 + ((gI S 34 6)).toNatClampNeg) 2 x3) (49 + ((gI S 34 6)).toNatClampNeg) 3 (0 : Int32)) (36 + (x2).toNatClampNeg) 0) - (gI (uI (uI (uI (uI S7 (49 + ((gI S 34 6)).toNatClampNeg) 0 x1) (49 + ((gI S 34 6)).toNatClampNeg) 1 x2) (49 + ((gI S 34 6)).toNatClampNeg) 2 x3) (49 + ((gI S 34 6)).toNatClampNeg) 3 (0 : Int32)) (36 + (x1).toNatClampNeg) 0))) (36 + (x1).toNatClampNeg) 1))) (gI (uI (uI (uI (uI (uI (uI S7 (49 + ((gI S 34 6)).toNatClampNeg) 0 x1) (49 + ((gI S 34 6)).toNatClampNeg) 1 x2) (49 + ((gI S 34 6)).toNatClampNeg) 2 x3) (49 + ((gI S 34 6)).toNatClampNeg) 3 (0 : Int32)) (49 + ((gI S 34 6)).toNatClampNeg) 6 ((gI (uI (uI (uI (uI S7 (49 + ((gI S 34 6)).toNatClampNeg) 0 x1) (49 + ((gI S 34 6)).toNatClampNeg) 1 x2) (49 + ((gI S 34 6)).toNatClampNeg) 2 x3) (49 + ((gI S 34 6)).toNatClampNeg) 3 (0 : Int32)) (36 + (x2).toNatClampNeg) 0) - (gI (uI (uI (uI (uI S7 (49 + ((gI S 34 6)).toNatClampNeg) 0 x1) (49 + ((gI S 34 6)).toNatClampNeg) 1 x2) (49 + ((gI S 34 6)).toNatClampNeg) 2 x3) (49 + ((gI S 34 6)).toNatClampNeg) 3 (0 : Int32)) (36 + (x1).toNatClampNeg) 0))) (49 + ((gI S 34 6)).toNatClampNeg) 7 ((gI (uI (uI (uI (uI (uI S7 (49 + ((gI S 34 6)).toNatClampNeg) 0 x1) (49 + ((gI S 34 6)).toNatClampNeg) 1 x2) (49 + ((gI S 34 6)).toNatClampNeg) 2 x3) (49 + ((gI S 34 6)).toNatClampNeg) 3 (0 : Int32)) (49 + ((gI S 34 6)).toNatClampNeg) 6 ((gI (uI (uI (uI (uI S7 (49 + ((gI S 34 6)).toNatClampNeg) 0 x1) (49 + ((gI S 34 6)).toNatClampNeg) 1 x2) (49 + ((gI S 34 6)).toNatClampNeg) 2 x3) (49 + ((gI S 34 6)).toNatClampNeg) 3 (0 : Int32)) (36 + (x2).toNatClampNeg) 0) - (gI (uI (uI (uI (uI S7 (49 + ((gI S 34 6)).toNatClampNeg) 0 x1) (49 + ((gI S 34 6)).toNatClampNeg) 1 x2) (49 + ((gI S 34 6)).toNatClampNeg) 2 x3) (49 + ((gI S 34 6)).toNatClampNeg) 3 (0 : Int32)) (36 + (x1).toNatClampNeg) 0))) (36 + (x2).toNatClampNeg) 1) - (gI (uI (uI (uI (uI (uI S7 (49 + ((gI S 34 6)).toNatClampNeg) 0 x1) (49 + ((gI S 34 6)).toNatClampNeg) 1 x2) (49 + ((gI S 34 6)).toNatClampNeg) 2 x3) (49 + ((gI S 34 6)).toNatClampNeg) 3 (0 : Int32)) (49 + ((gI S 34 6)).toNatClampNeg) 6 ((gI (uI (uI (uI (uI S7 (49 + ((gI S 34 6)).toNatClampNeg) 0 x1) (49 + ((gI S 34 6)).toNatClampNeg) 1 x2) (49 + ((gI S 34 6)).toNatClampNeg) 2 x3) (49 + ((gI S 34 6)).toNatClampNeg) 3 (0 : Int32)) (36 + (x2).toNatClampNeg) 0) - (gI (uI (uI (uI (uI S7 (49 + ((gI S 34 6)).toNatClampNeg) 0 x1) (49 + ((gI S 34 6)).toNatClampNeg) 1 x2) (49 + ((gI S 34 6)).toNatClampNeg) 2 x3) (49 + ((gI S 34 6)).toNatClampNeg) 3 (0 : Int32)) (36 + (x1).toNatClampNeg) 0))) (36 + (x1).toNatClampNeg) 1))) (49 + ((gI S 34 6)).toNatClampNeg) 6) h16) rfl (Nat.le_of_ble_eq_true rfl) ⟨Nat.le_refl _, Nat.le_refl _⟩ (show J w (d + 2) m_T_addStreet (n0, z0, some (.int z.1), mk c z.2) 125 [some (.ref 34), some (.int x1), some (.int x2), some (.int x3), some (.int x4), some (.int (gI S 34 6)), some (.ref (49 + ((gI S 34 6)).toNatClampNeg))] [.int r14, .int (4 : Int32), .ref (49 + ((gI S 34 6)).toNatClampNeg)] (mk c S15) from ?_)
          refine J.run b_T_addStreet_125_3 k_T_addStreet_125_3 rfl (And.intro (okA_row (S := S15) (b := 49) (cnt := 20) (n := 8) rfl (inb_lt g10) rfl) (show J w (d + 2) m_T_addStreet (n0, z0, some (.int z.1), mk c z.2) 130 [some (.ref 34), some (.int x1), some (.int x2), some (.int x3), some (.int x4), some (.int (gI S 34 6)), some (.ref (49 + ((gI S 34 6)).toNatClampNeg))] [.int (gI S15 (49 + ((gI S 34 6)).toNatClampNeg) 7), .int r14, .int (4 : Int32), .ref (49 + ((gI S 34 6)).toNatClampNeg)] (mk c S15) from ?_))
          obtain ⟨r17, S18, h19, H⟩ := bd_e H
          refine J.callS (y := m_Ma_abs) (av := [.int (gI S15 (49 + ((gI S 34 6)).toNatClampNeg) 7)]) (rest := [.int r14, .int (4 : Int32), .ref (49 + ((gI S 34 6)).toNatClampNeg)]) l_T_60 d_T_addStreet_130 (c_Ma_abs w (d + 0) c  S15 (gI S15 (49 + ((gI S 34 6)).toNatClampNeg) 7) h19) rfl (Nat.le_of_ble_eq_true rfl) ⟨Nat.le_refl _, Nat.le_refl _⟩ (show J w (d + 2) m_T_addStreet (n0, z0, some (.int z.1), mk c z.2) 133 [some (.ref 34), some (.int x1), some (.int x2), some (.int x3), some (.int x4), some (.int (gI S 34 6)), some (.ref (49 + ((gI S 34 6)).toNatClampNeg))] [.int r17, .int r14, .int (4 : Int32), .ref (49 + ((gI S 34 6)).toNatClampNeg)] (mk c S18) from ?_)
          refine J.run b_T_addStreet_133_13 k_T_addStreet_133_13 rfl (And.intro (okB_row (S := S18) (b := 49) (cnt := 20) (n := 8) rfl (inb_lt g10) rfl) (And.intro (okB_row (S := (uI S18 (49 + ((gI S 34 6)).toNatClampNeg) 4 (r14 + r17))) (b := 49) (cnt := 20) (n := 8) rfl (inb_lt g10) rfl) (And.intro (okO_st (S := (uI (uI S18 (49 + ((gI S 34 6)).toNatClampNeg) 4 (r14 + r17)) (49 + ((gI S 34 6)).toNatClampNeg) 5 (0 : Int32))) rfl) (And.intro (okO_st (S := (uI (uI S18 (49 + ((gI S 34 6)).toNatClampNeg) 4 (r14 + r17)) (49 + ((gI S 34 6)).toNatClampNeg) 5 (0 : Int32))) rfl) (show J w (d + 2) m_T_addStreet (n0, z0, some (.int z.1), mk c z.2) 152 [some (.ref 34), some (.int x1), some (.int x2), some (.int x3), some (.int x4), some (.int (gI S 34 6)), some (.ref (49 + ((gI S 34 6)).toNatClampNeg))] [.int (gI S 34 6)] (mk c (uI (uI (uI S18 (49 + ((gI S 34 6)).toNatClampNeg) 4 (r14 + r17)) (49 + ((gI S 34 6)).toNatClampNeg) 5 (0 : Int32)) 34 6 ((gI (uI (uI S18 (49 + ((gI S 34 6)).toNatClampNeg) 4 (r14 + r17)) (49 + ((gI S 34 6)).toNatClampNeg) 5 (0 : Int32)) 34 6) + (1 : Int32)))) from ?_)))))
          obtain rfl := some_e H
          exact J.iret d_T_addStreet_152 rfl rfl
        · have H := ite_f H q11
          refine J.run b_T_addStreet_64_1 k_T_addStreet_64_1 rfl (show J w (d + 2) m_T_addStreet (n0, z0, some (.int z.1), mk c z.2) 65 [some (.ref 34), some (.int x1), some (.int x2), some (.int x3), some (.int x4), some (.int (gI S 34 6)), some (.ref (49 + ((gI S 34 6)).toNatClampNeg))] [.int (1 : Int32), .int (3 : Int32), .ref (49 + ((gI S 34 6)).toNatClampNeg)] (mk c (uI (uI (uI S7 (49 + ((gI S 34 6)).toNatClampNeg) 0 x1) (49 + ((gI S 34 6)).toNatClampNeg) 1 x2) (49 + ((gI S 34 6)).toNatClampNeg) 2 x3)) from ?_)
          refine J.goto (tgt := 69) d_T_addStreet_65 rfl ?_
          obtain ⟨g20, H⟩ := ck_e H
          obtain ⟨g21, H⟩ := ck_e H
          refine J.run b_T_addStreet_69_38 k_T_addStreet_69_38 rfl (And.intro (okB_row (S := (uI (uI (uI S7 (49 + ((gI S 34 6)).toNatClampNeg) 0 x1) (49 + ((gI S 34 6)).toNatClampNeg) 1 x2) (49 + ((gI S 34 6)).toNatClampNeg) 2 x3)) (b := 49) (cnt := 20) (n := 8) rfl (inb_lt g10) rfl) (And.intro (okO_st (S := (uI (uI (uI (uI S7 (49 + ((gI S 34 6)).toNatClampNeg) 0 x1) (49 + ((gI S 34 6)).toNatClampNeg) 1 x2) (49 + ((gI S 34 6)).toNatClampNeg) 2 x3) (49 + ((gI S 34 6)).toNatClampNeg) 3 (1 : Int32))) rfl) (And.intro (okQ_st (S := (uI (uI (uI (uI S7 (49 + ((gI S 34 6)).toNatClampNeg) 0 x1) (49 + ((gI S 34 6)).toNatClampNeg) 1 x2) (49 + ((gI S 34 6)).toNatClampNeg) 2 x3) (49 + ((gI S 34 6)).toNatClampNeg) 3 (1 : Int32))) (k := 23) (n := 12) rfl rfl g20) (And.intro (okA_row (S := (uI (uI (uI (uI S7 (49 + ((gI S 34 6)).toNatClampNeg) 0 x1) (49 + ((gI S 34 6)).toNatClampNeg) 1 x2) (49 + ((gI S 34 6)).toNatClampNeg) 2 x3) (49 + ((gI S 34 6)).toNatClampNeg) 3 (1 : Int32))) (b := 36) (cnt := 12) (n := 2) rfl (inb_lt g20) rfl) (And.intro (okO_st (S := (uI (uI (uI (uI S7 (49 + ((gI S 34 6)).toNatClampNeg) 0 x1) (49 + ((gI S 34 6)).toNatClampNeg) 1 x2) (49 + ((gI S 34 6)).toNatClampNeg) 2 x3) (49 + ((gI S 34 6)).toNatClampNeg) 3 (1 : Int32))) rfl) (And.intro (okQ_st (S := (uI (uI (uI (uI S7 (49 + ((gI S 34 6)).toNatClampNeg) 0 x1) (49 + ((gI S 34 6)).toNatClampNeg) 1 x2) (49 + ((gI S 34 6)).toNatClampNeg) 2 x3) (49 + ((gI S 34 6)).toNatClampNeg) 3 (1 : Int32))) (k := 23) (n := 12) rfl rfl g21) (And.intro (okA_row (S := (uI (uI (uI (uI S7 (49 + ((gI S 34 6)).toNatClampNeg) 0 x1) (49 + ((gI S 34 6)).toNatClampNeg) 1 x2) (49 + ((gI S 34 6)).toNatClampNeg) 2 x3) (49 + ((gI S 34 6)).toNatClampNeg) 3 (1 : Int32))) (b := 36) (cnt := 12) (n := 2) rfl (inb_lt g21) rfl) (And.intro (okB_row (S := (uI (uI (uI (uI S7 (49 + ((gI S 34 6)).toNatClampNeg) 0 x1) (49 + ((gI S 34 6)).toNatClampNeg) 1 x2) (49 + ((gI S 34 6)).toNatClampNeg) 2 x3) (49 + ((gI S 34 6)).toNatClampNeg) 3 (1 : Int32))) (b := 49) (cnt := 20) (n := 8) rfl (inb_lt g10) rfl) (And.intro (okO_st (S := (uI (uI (uI (uI (uI S7 (49 + ((gI S 34 6)).toNatClampNeg) 0 x1) (49 + ((gI S 34 6)).toNatClampNeg) 1 x2) (49 + ((gI S 34 6)).toNatClampNeg) 2 x3) (49 + ((gI S 34 6)).toNatClampNeg) 3 (1 : Int32)) (49 + ((gI S 34 6)).toNatClampNeg) 6 ((gI (uI (uI (uI (uI S7 (49 + ((gI S 34 6)).toNatClampNeg) 0 x1) (49 + ((gI S 34 6)).toNatClampNeg) 1 x2) (49 + ((gI S 34 6)).toNatClampNeg) 2 x3) (49 + ((gI S 34 6)).toNatClampNeg) 3 (1 : Int32)) (36 + (x2).toNatClampNeg) 0) - (gI (uI (uI (uI (uI S7 (49 + ((gI S 34 6)).toNatClampNeg) 0 x1) (49 + ((gI S 34 6)).toNatClampNeg) 1 x2) (49 + ((gI S 34 6)).toNatClampNeg) 2 x3) (49 + ((gI S 34 6)).toNatClampNeg) 3 (1 : Int32)) (36 + (x1).toNatClampNeg) 0)))) rfl) (And.intro (okQ_st (S := (uI (uI (uI (uI (uI S7 (49 + ((gI S 34 6)).toNatClampNeg) 0 x1) (49 + ((gI S 34 6)).toNatClampNeg) 1 x2) (49 + ((gI S 34 6)).toNatClampNeg) 2 x3) (49 + ((gI S 34 6)).toNatClampNeg) 3 (1 : Int32)) (49 + ((gI S 34 6)).toNatClampNeg) 6 ((gI (uI (uI (uI (uI S7 (49 + ((gI S 34 6)).toNatClampNeg) 0 x1) (49 + ((gI S 34 6)).toNatClampNeg) 1 x2) (49 + ((gI S 34 6)).toNatClampNeg) 2 x3) (49 + ((gI S 34 6)).toNatClampNeg) 3 (1 : Int32)) (36 + (x2).toNatClampNeg) 0) - (gI (uI (uI (uI (uI S7 (49 + ((gI S 34 6)).toNatClampNeg) 0 x1) (49 + ((gI S 34 6)).toNatClampNeg) 1 x2) (49 + ((gI S 34 6)).toNatClampNeg) 2 x3) (49 + ((gI S 34 6)).toNatClampNeg) 3 (1 : Int32)) (36 + (x1).toNatClampNeg) 0)))) (k := 23) (n := 12) rfl rfl g20) (And.intro (okA_row (S := (uI (uI (uI (uI (uI S7 (49 + ((gI S 34 6)).toNatClampNeg) 0 x1) (49 + ((gI S 34 6)).toNatClampNeg) 1 x2) (49 + ((gI S 34 6)).toNatClampNeg) 2 x3) (49 + ((gI S 34 6)).toNatClampNeg) 3 (1 : Int32)) (49 + ((gI S 34 6)).toNatClampNeg) 6 ((gI (uI (uI (uI (uI S7 (49 + ((gI S 34 6)).toNatClampNeg) 0 x1) (49 + ((gI S 34 6)).toNatClampNeg) 1 x2) (49 + ((gI S 34 6)).toNatClampNeg) 2 x3) (49 + ((gI S 34 6)).toNatClampNeg) 3 (1 : Int32)) (36 + (x2).toNatClampNeg) 0) - (gI (uI (uI (uI (uI S7 (49 + ((gI S 34 6)).toNatClampNeg) 0 x1) (49 + ((gI S 34 6)).toNatClampNeg) 1 x2) (49 + ((gI S 34 6)).toNatClampNeg) 2 x3) (49 + ((gI S 34 6)).toNatClampNeg) 3 (1 : Int32)) (36 + (x1).toNatClampNeg) 0)))) (b := 36) (cnt := 12) (n := 2) rfl (inb_lt g20) rfl) (And.intro (okO_st (S := (uI (uI (uI (uI (uI S7 (49 + ((gI S 34 6)).toNatClampNeg) 0 x1) (49 + ((gI S 34 6)).toNatClampNeg) 1 x2) (49 + ((gI S 34 6)).toNatClampNeg) 2 x3) (49 + ((gI S 34 6)).toNatClampNeg) 3 (1 : Int32)) (49 + ((gI S 34 6)).toNatClampNeg) 6 ((gI (uI (uI (uI (uI S7 (49 + ((gI S 34 6)).toNatClampNeg) 0 x1) (49 + ((gI S 34 6)).toNatClampNeg) 1 x2) (49 + ((gI S 34 6)).toNatClampNeg) 2 x3) (49 + ((gI S 34 6)).toNatClampNeg) 3 (1 : Int32)) (36 + (x2).toNatClampNeg) 0) - (gI (uI (uI (uI (uI S7 (49 + ((gI S 34 6)).toNatClampNeg) 0 x1) (49 + ((gI S 34 6)).toNatClampNeg) 1 x2) (49 + ((gI S 34 6)).toNatClampNeg) 2 x3) (49 + ((gI S 34 6)).toNatClampNeg) 3 (1 : Int32)) (36 + (x1).toNatClampNeg) 0)))) rfl) (And.intro (okQ_st (S := (uI (uI (uI (uI (uI S7 (49 + ((gI S 34 6)).toNatClampNeg) 0 x1) (49 + ((gI S 34 6)).toNatClampNeg) 1 x2) (49 + ((gI S 34 6)).toNatClampNeg) 2 x3) (49 + ((gI S 34 6)).toNatClampNeg) 3 (1 : Int32)) (49 + ((gI S 34 6)).toNatClampNeg) 6 ((gI (uI (uI (uI (uI S7 (49 + ((gI S 34 6)).toNatClampNeg) 0 x1) (49 + ((gI S 34 6)).toNatClampNeg) 1 x2) (49 + ((gI S 34 6)).toNatClampNeg) 2 x3) (49 + ((gI S 34 6)).toNatClampNeg) 3 (1 : Int32)) (36 + (x2).toNatClampNeg) 0) - (gI (uI (uI (uI (uI S7 (49 + ((gI S 34 6)).toNatClampNeg) 0 x1) (49 + ((gI S 34 6)).toNatClampNeg) 1 x2) (49 + ((gI S 34 6)).toNatClampNeg) 2 x3) (49 + ((gI S 34 6)).toNatClampNeg) 3 (1 : Int32)) (36 + (x1).toNatClampNeg) 0)))) (k := 23) (n := 12) rfl rfl g21) (And.intro (okA_row (S := (uI (uI (uI (uI (uI S7 (49 + ((gI S 34 6)).toNatClampNeg) 0 x1) (49 + ((gI S 34 6)).toNatClampNeg) 1 x2) (49 + ((gI S 34 6)).toNatClampNeg) 2 x3) (49 + ((gI S 34 6)).toNatClampNeg) 3 (1 : Int32)) (49 + ((gI S 34 6)).toNatClampNeg) 6 ((gI (uI (uI (uI (uI S7 (49 + ((gI S 34 6)).toNatClampNeg) 0 x1) (49 + ((gI S 34 6)).toNatClampNeg) 1 x2) (49 + ((gI S 34 6)).toNatClampNeg) 2 x3) (49 + ((gI S 34 6)).toNatClampNeg) 3 (1 : Int32)) (36 + (x2).toNatClampNeg) 0) - (gI (uI (uI (uI (uI S7 (49 + ((gI S 34 6)).toNatClampNeg) 0 x1) (49 + ((gI S 34 6)).toNatClampNeg) 1 x2) (49 + ((gI S 34 6)).toNatClampNeg) 2 x3) (49 + ((gI S 34 6)).toNatClampNeg) 3 (1 : Int32)) (36 + (x1).toNatClampNeg) 0)))) (b := 36) (cnt := 12) (n := 2) rfl (inb_lt g21) rfl) (And.intro (okB_row (S := (uI (uI (uI (uI (uI S7 (49 + ((gI S 34 6)).toNatClampNeg) 0 x1) (49 + ((gI S 34 6)).toNatClampNeg) 1 x2) (49 + ((gI S 34 6)).toNatClampNeg) 2 x3) (49 + ((gI S 34 6)).toNatClampNeg) 3 (1 : Int32)) (49 + ((gI S 34 6)).toNatClampNeg) 6 ((gI (uI (uI (uI (uI S7 (49 + ((gI S 34 6)).toNatClampNeg) 0 x1) (49 + ((gI S 34 6)).toNatClampNeg) 1 x2) (49 + ((gI S 34 6)).toNatClampNeg) 2 x3) (49 + ((gI S 34 6)).toNatClampNeg) 3 (1 : Int32)) (36 + (x2).toNatClampNeg) 0) - (gI (uI (uI (uI (uI S7 (49 + ((gI S 34 6)).toNatClampNeg) 0 x1) (49 + ((gI S 34 6)).toNatClampNeg) 1 x2) (49 + ((gI S 34 6)).toNatClampNeg) 2 x3) (49 + ((gI S 34 6)).toNatClampNeg) 3 (1 : Int32)) (36 + (x1).toNatClampNeg) 0)))) (b := 49) (cnt := 20) (n := 8) rfl (inb_lt g10) rfl) (And.intro (okA_row (S := (uI (uI (uI (uI (uI (uI S7 (49 + ((gI S 34 6)).toNatClampNeg) 0 x1) (49 + ((gI S 34 6)).toNatClampNeg) 1 x2) (49 + ((gI S 34 6)).toNatClampNeg) 2 x3) (49 + ((gI S 34 6)).toNatClampNeg) 3 (1 : Int32)) (49 + ((gI S 34 6)).toNatClampNeg) 6 ((gI (uI (uI (uI (uI S7 (49 + ((gI S 34 6)).toNatClampNeg) 0 x1) (49 + ((gI S 34 6)).toNatClampNeg) 1 x2) (49 + ((gI S 34 6)).toNatClampNeg) 2 x3) (49 + ((gI S 34 6)).toNatClampNeg) 3 (1 : Int32)) (36 + (x2).toNatClampNeg) 0) - (gI (uI (uI (uI (uI S7 (49 + ((gI S 34 6)).toNatClampNeg) 0 x1) (49 + ((gI S 34 6)).toNatClampNeg) 1 x2) (49 + ((gI S 34 6)).toNatClampNeg) 2 x3) (49 + ((gI S 34 6)).toNatClampNeg) 3 (1 : Int32)) (36 + (x1).toNatClampNeg) 0))) (49 + ((gI S 34 6)).toNatClampNeg) 7 ((gI (uI (uI (uI (uI (uI S7 (49 + ((gI S 34 6)).toNatClampNeg) 0 x1) (49 + ((gI S 34 6)).toNatClampNeg) 1 x2) (49 + ((gI S 34 6)).toNatClampNeg) 2 x3) (49 + ((gI S 34 6)).toNatClampNeg) 3 (1 : Int32)) (49 + ((gI S 34 6)).toNatClampNeg) 6 ((gI (uI (uI (uI (uI S7 (49 + ((gI S 34 6)).toNatClampNeg) 0 x1) (49 + ((gI S 34 6)).toNatClampNeg) 1 x2) (49 + ((gI S 34 6)).toNatClampNeg) 2 x3) (49 + ((gI S 34 6)).toNatClampNeg) 3 (1 : Int32)) (36 + (x2).toNatClampNeg) 0) - (gI (uI (uI (uI (uI S7 (49 + ((gI S 34 6)).toNatClampNeg) 0 x1) (49 + ((gI S 34 6)).toNatClampNeg) 1 x2) (49 + ((gI S 34 6)).toNatClampNeg) 2 x3) (49 + ((gI S 34 6)).toNatClampNeg) 3 (1 : Int32)) (36 + (x1).toNatClampNeg) 0))) (36 + (x2).toNatClampNeg) 1) - (gI (uI (uI (uI (uI (uI S7 (49 + ((gI S 34 6)).toNatClampNeg) 0 x1) (49 + ((gI S 34 6)).toNatClampNeg) 1 x2) (49 + ((gI S 34 6)).toNatClampNeg) 2 x3) (49 + ((gI S 34 6)).toNatClampNeg) 3 (1 : Int32)) (49 + ((gI S 34 6)).toNatClampNeg) 6 ((gI (uI (uI (uI (uI S7 (49 + ((gI S 34 6)).toNatClampNeg) 0 x1) (49 + ((gI S 34 6)).toNatClampNeg) 1 x2) (49 + ((gI S 34 6)).toNatClampNeg) 2 x3) (49 + ((gI S 34 6)).toNatClampNeg) 3 (1 : Int32)) (36 + (x2).toNatClampNeg) 0) - (gI (uI (uI (uI (uI S7 (49 + ((gI S 34 6)).toNatClampNeg) 0 x1) (49 + ((gI S 34 6)).toNatClampNeg) 1 x2) (49 + ((gI S 34 6)).toNatClampNeg) 2 x3) (49 + ((gI S 34 6)).toNatClampNeg) 3 (1 : Int32)) (36 + (x1).toNatClampNeg) 0))) (36 + (x1).toNatClampNeg) 1)))) (b := 49) (cnt := 20) (n := 8) rfl (inb_lt g10) rfl) (show J w (d + 2) m_T_addStreet (n0, z0, some (.int z.1), mk c z.2) 122 [some (.ref 34), some (.int x1), some (.int x2), some (.int x3), some (.int x4), some (.int (gI S 34 6)), some (.ref (49 + ((gI S 34 6)).toNatClampNeg))] [.int (gI (uI (uI (uI (uI (uI (uI S7 (49 + ((gI S 34 6)).toNatClampNeg) 0 x1) (49 + ((gI S 34 6)).toNatClampNeg) 1 x2) (49 + ((gI S 34 6)).toNatClampNeg) 2 x3) (49 + ((gI S 34 6)).toNatClampNeg) 3 (1 : Int32)) (49 + ((gI S 34 6)).toNatClampNeg) 6 ((gI (uI (uI (uI (uI S7 (49 + ((gI S 34 6)).toNatClampNeg) 0 x1) (49 + ((gI S 34 6)).toNatClampNeg) 1 x2) (49 + ((gI S 34 6)).toNatClampNeg) 2 x3) (49 + ((gI S 34 6)).toNatClampNeg) 3 (1 : Int32)) (36 + (x2).toNatClampNeg) 0) - (gI (uI (uI (uI (uI S7 (49 + ((gI S 34 6)).toNatClampNeg) 0 x1) (49 + ((gI S 34 6)).toNatClampNeg) 1 x2) (49 + ((gI S 34 6)).toNatClampNeg) 2 x3) (49 + ((gI S 34 6)).toNatClampNeg) 3 (1 : Int32)) (36 + (x1).toNatClampNeg) 0))) (49 + ((gI S 34 6)).toNatClampNeg) 7 ((gI (uI (uI (uI (uI (uI S7 (49 + ((gI S 34 6)).toNatClampNeg) 0 x1) (49 + ((gI S 34 6)).toNatClampNeg) 1 x2) (49 + ((gI S 34 6)).toNatClampNeg) 2 x3) (49 + ((gI S 34 6)).toNatClampNeg) 3 (1 : Int32)) (49 + ((gI S 34 6)).toNatClampNeg) 6 ((gI (uI (uI (uI (uI S7 (49 + ((gI S 34 6)).toNatClampNeg) 0 x1) (49 + ((gI S 34 6)).toNatClampNeg) 1 x2) (49 + ((gI S 34 6)).toNatClampNeg) 2 x3) (49 + ((gI S 34 6)).toNatClampNeg) 3 (1 : Int32)) (36 + (x2).toNatClampNeg) 0) - (gI (uI (uI (uI (uI S7 (49 + ((gI S 34 6)).toNatClampNeg) 0 x1) (49 + ((gI S 34 6)).toNatClampNeg) 1 x2) (49 + ((gI S 34 6)).toNatClampNeg) 2 x3) (49 + ((gI S 34 6)).toNatClampNeg) 3 (1 : Int32)) (36 + (x1).toNatClampNeg) 0))) (36 + (x2).toNatClampNeg) 1) - (gI (uI (uI (uI (uI (uI S7 (49 + ((gI S 34 6)).toNatClampNeg) 0 x1) (49 + ((gI S 34 6)).toNatClampNeg) 1 x2) (49 + ((gI S 34 6)).toNatClampNeg) 2 x3) (49 + ((gI S 34 6)).toNatClampNeg) 3 (1 : Int32)) (49 + ((gI S 34 6)).toNatClampNeg) 6 ((gI (uI (uI (uI (uI S7 (49 + ((gI S 34 6)).toNatClampNeg) 0 x1) (49 + ((gI S 34 6)).toNatClampNeg) 1 x2) (49 + ((gI S 34 6)).toNatClampNeg) 2 x3) (49 + ((gI S 34 6)).toNatClampNeg) 3 (1 : Int32)) (36 + (x2).toNatClampNeg) 0) - (gI (uI (uI (uI (uI S7 (49 + ((gI S 34 6)).toNatClampNeg) 0 x1) (49 + ((gI S 34 6)).toNatClampNeg) 1 x2) (49 + ((gI S 34 6)).toNatClampNeg) 2 x3) (49 + ((gI S 34 6)).toNatClampNeg) 3 (1 : Int32)) (36 + (x1).toNatClampNeg) 0))) (36 + (x1).toNatClampNeg) 1))) (49 + ((gI S 34 6)).toNatClampNeg) 6), .int (4 : Int32), .ref (49 + ((gI S 34 6)).toNatClampNeg)] (mk c (uI (uI (uI (uI (uI (uI S7 (49 + ((gI S 34 6)).toNatClampNeg) 0 x1) (49 + ((gI S 34 6)).toNatClampNeg) 1 x2) (49 + ((gI S 34 6)).toNatClampNeg) 2 x3) (49 + ((gI S 34 6)).toNatClampNeg) 3 (1 : Int32)) (49 + ((gI S 34 6)).toNatClampNeg) 6 ((gI (uI (uI (uI (uI S7 (49 + ((gI S 34 6)).toNatClampNeg) 0 x1) (49 + ((gI S 34 6)).toNatClampNeg) 1 x2) (49 + ((gI S 34 6)).toNatClampNeg) 2 x3) (49 + ((gI S 34 6)).toNatClampNeg) 3 (1 : Int32)) (36 + (x2).toNatClampNeg) 0) - (gI (uI (uI (uI (uI S7 (49 + ((gI S 34 6)).toNatClampNeg) 0 x1) (49 + ((gI S 34 6)).toNatClampNeg) 1 x2) (49 + ((gI S 34 6)).toNatClampNeg) 2 x3) (49 + ((gI S 34 6)).toNatClampNeg) 3 (1 : Int32)) (36 + (x1).toNatClampNeg) 0))) (49 + ((gI S 34 6)).toNatClampNeg) 7 ((gI (uI (uI (uI (uI (uI S7 (49 + ((gI S 34 6)).toNatClampNeg) 0 x1) (49 + ((gI S 34 6)).toNatClampNeg) 1 x2) (49 + ((gI S 34 6)).toNatClampNeg) 2 x3) (49 + ((gI S 34 6)).toNatClampNeg) 3 (1 : Int32)) (49 + ((gI S 34 6)).toNatClampNeg) 6 ((gI (uI (uI (uI (uI S7 (49 + ((gI S 34 6)).toNatClampNeg) 0 x1) (49 + ((gI S 34 6)).toNatClampNeg) 1 x2) (49 + ((gI S 34 6)).toNatClampNeg) 2 x3) (49 + ((gI S 34 6)).toNatClampNeg) 3 (1 : Int32)) (36 + (x2).toNatClampNeg) 0) - (gI (uI (uI (uI (uI S7 (49 + ((gI S 34 6)).toNatClampNeg) 0 x1) (49 + ((gI S 34 6)).toNatClampNeg) 1 x2) (49 + ((gI S 34 6)).toNatClampNeg) 2 x3) (49 + ((gI S 34 6)).toNatClampNeg) 3 (1 : Int32)) (36 + (x1).toNatClampNeg) 0))) (36 + (x2).toNatClampNeg) 1) - (gI (uI (uI (uI (uI (uI S7 (49 + ((gI S 34 6)).toNatClampNeg) 0 x1) (49 + ((gI S 34 6)).toNatClampNeg) 1 x2) (49 + ((gI S 34 6)).toNatClampNeg) 2 x3) (49 + ((gI S 34 6)).toNatClampNeg) 3 (1 : Int32)) (49 + ((gI S 34 6)).toNatClampNeg) 6 ((gI (uI (uI (uI (uI S7 (49 + ((gI S 34 6)).toNatClampNeg) 0 x1) (49 + ((gI S 34 6)).toNatClampNeg) 1 x2) (49 + ((gI S 34 6)).toNatClampNeg) 2 x3) (49 + ((gI S 34 6)).toNatClampNeg) 3 (1 : Int32)) (36 + (x2).toNatClampNeg) 0) - (gI (uI (uI (uI (uI S7 (49 + ((gI S 34 6)).toNatClampNeg) 0 x1) (49 + ((gI S 34 6)).toNatClampNeg) 1 x2) (49 + ((gI S 34 6)).toNatClampNeg) 2 x3) (49 + ((gI S 34 6)).toNatClampNeg) 3 (1 : Int32)) (36 + (x1).toNatClampNeg) 0))) (36 + (x1).toNatClampNeg) 1)))) from ?_)))))))))))))))))
          obtain ⟨r22, S23, h24, H⟩ := bd_e H
          refine J.callS (y := m_Ma_abs) (av := [.int (gI (uI (uI (uI (uI (uI (uI S7 (49 + ((gI S 34 6)).toNatClampNeg) 0 x1) (49 + ((gI S 34 6)).toNatClampNeg) 1 x2) (49 + ((gI S 34 6)).toNatClampNeg) 2 x3) (49 + ((gI S 34 6)).toNatClampNeg) 3 (1 : Int32)) (49 + ((gI S 34 6)).toNatClampNeg) 6 ((gI (uI (uI (uI (uI S7 (49 + ((gI S 34 6)).toNatClampNeg) 0 x1) (49 + ((gI S 34 6)).toNatClampNeg) 1 x2) (49 + ((gI S 34 6)).toNatClampNeg) 2 x3) (49 + ((gI S 34 6)).toNatClampNeg) 3 (1 : Int32)) (36 + (x2).toNatClampNeg) 0) - (gI (uI (uI (uI (uI S7 (49 + ((gI S 34 6)).toNatClampNeg) 0 x1) (49 + ((gI S 34 6)).toNatClampNeg) 1 x2) (49 + ((gI S 34 6)).toNatClampNeg) 2 x3) (49 + ((gI S 34 6)).toNatClampNeg) 3 (1 : Int32)) (36 + (x1).toNatClampNeg) 0))) (49 + ((gI S 34 6)).toNatClampNeg) 7 ((gI (uI (uI (uI (uI (uI S7 (49 + ((gI S 34 6)).toNatClampNeg) 0 x1) (49 + ((gI S 34 6)).toNatClampNeg) 1 x2) (49 + ((gI S 34 6)).toNatClampNeg) 2 x3) (49 + ((gI S 34 6)).toNatClampNeg) 3 (1 : Int32)) (49 + ((gI S 34 6)).toNatClampNeg) 6 ((gI (uI (uI (uI (uI S7 (49 + ((gI S 34 6)).toNatClampNeg) 0 x1) (49 + ((gI S 34 6)).toNatClampNeg) 1 x2) (49 + ((gI S 34 6)).toNatClampNeg) 2 x3) (49 + ((gI S 34 6)).toNatClampNeg) 3 (1 : Int32)) (36 + (x2).toNatClampNeg) 0) - (gI (uI (uI (uI (uI S7 (49 + ((gI S 34 6)).toNatClampNeg) 0 x1) (49 + ((gI S 34 6)).toNatClampNeg) 1 x2) (49 + ((gI S 34 6)).toNatClampNeg) 2 x3) (49 + ((gI S 34 6)).toNatClampNeg) 3 (1 : Int32)) (36 + (x1).toNatClampNeg) 0))) (36 + (x2).toNatClampNeg) 1) - (gI (uI (uI (uI (uI (uI S7 (49 + ((gI S 34 6)).toNatClampNeg) 0 x1) (49 + ((gI S 34 6)).toNatClampNeg) 1 x2) (49 + ((gI S 34 6)).toNatClampNeg) 2 x3) (49 + ((gI S 34 6)).toNatClampNeg) 3 (1 : Int32)) (49 + ((gI S 34 6)).toNatClampNeg) 6 ((gI (uI (uI (uI (uI S7 (49 + ((gI S 34 6)).toNatClampNeg) 0 x1) (49 + ((gI S 34 6)).toNatClampNeg) 1 x2) (49 + ((gI S 34 6)).toNatClampNeg) 2 x3) (49 + ((gI S 34 6)).toNatClampNeg) 3 (1 : Int32)) (36 + (x2).toNatClampNeg) 0) - (gI (uI (uI (uI (uI S7 (49 + ((gI S 34 6)).toNatClampNeg) 0 x1) (49 + ((gI S 34 6)).toNatClampNeg) 1 x2) (49 + ((gI S 34 6)).toNatClampNeg) 2 x3) (49 + ((gI S 34 6)).toNatClampNeg) 3 (1 : Int32)) (36 + (x1).toNatClampNeg) 0))) (36 + (x1).toNatClampNeg) 1))) (49 + ((gI S 34 6)).toNatClampNeg) 6)]) (rest := [.int (4 : Int32), .ref (49 + ((gI S 34 6)).toNatClampNeg)]) l_T_60 d_T_addStreet_122 (c_Ma_abs w (d + 0) c  (uI (uI (uI (uI (uI (uI S7 (49 + ((gI S 34 6)).toNatClampNeg) 0 x1) (49 + ((gI S 34 6)).toNatClampNeg) 1 x2) (49 + ((gI S 34 6)).toNatClampNeg) 2 x3) (49 + ((gI S 34 6)).toNatClampNeg) 3 (1 : Int32)) (49 + ((gI S 34 6)).toNatClampNeg) 6 ((gI (uI (uI (uI (uI S7 (49 + ((gI S 34 6)).toNatClampNeg) 0 x1) (49 + ((gI S 34 6)).toNatClampNeg) 1 x2) (49 + ((gI S 34 6)).toNatClampNeg) 2 x3) (49 + ((gI S 34 6)).toNatClampNeg) 3 (1 : Int32)) (36 + (x2).toNatClampNeg) 0) - (gI (uI (uI (uI (uI S7 (49 + ((gI S 34 6)).toNatClampNeg) 0 x1) (49 + ((gI S 34 6)).toNatClampNeg) 1 x2) (49 + ((gI S 34 6)).toNatClampNeg) 2 x3) (49 + ((gI S 34 6)).toNatClampNeg) 3 (1 : Int32)) (36 + (x1).toNatClampNeg) 0))) (49 + ((gI S 34 6)).toNatClampNeg) 7 ((gI (uI (uI (uI (uI (uI S7 (49 + ((gI S 34 6)).toNatClampNeg) 0 x1) (49 + ((gI S 34 6)).toNatClampNeg) 1 x2) (49 + ((gI S 34 6)).toNatClampNeg) 2 x3) (49 + ((gI S 34 6)).toNatClampNeg) 3 (1 : Int32)) (49 + ((gI S 34 6)).toNatClampNeg) 6 ((gI (uI (uI (uI (uI S7 (49 + ((gI S 34 6)).toNatClampNeg) 0 x1) (49 + ((gI S 34 6)).toNatClampNeg) 1 x2) (49 + ((gI S 34 6)).toNatClampNeg) 2 x3) (49 + ((gI S 34 6)).toNatClampNeg) 3 (1 : Int32)) (36 + (x2).toNatClampNeg) 0) - (gI (uI (uI (uI (uI S7 (49 + ((gI S 34 6)).toNatClampNeg) 0 x1) (49 + ((gI S 34 6)).toNatClampNeg) 1 x2) (49 + ((gI S 34 6)).toNatClampNeg) 2 x3) (49 + ((gI S 34 6)).toNatClampNeg) 3 (1 : Int32)) (36 + (x1).toNatClampNeg) 0))) (36 + (x2).toNatClampNeg) 1) - (gI (uI (uI (uI (uI (uI S7 (49 + ((gI S 34 6)).toNatClampNeg) 0 x1) (49 + ((gI S 34 6)).toNatClampNeg) 1 x2) (49 + ((gI S 34 6)).toNatClampNeg) 2 x3) (49 + ((gI S 34 6)).toNatClampNeg) 3 (1 : Int32)) (49 + ((gI S 34 6)).toNatClampNeg) 6 ((gI (uI (uI (uI (uI S7 (49 + ((gI S 34 6)).toNatClampNeg) 0 x1) (49 + ((gI S 34 6)).toNatClampNeg) 1 x2) (49 + ((gI S 34 6)).toNatClampNeg) 2 x3) (49 + ((gI S 34 6)).toNatClampNeg) 3 (1 : Int32)) (36 + (x2).toNatClampNeg) 0) - (gI (uI (uI (uI (uI S7 (49 + ((gI S 34 6)).toNatClampNeg) 0 x1) (49 + ((gI S 34 6)).toNatClampNeg) 1 x2) (49 + ((gI S 34 6)).toNatClampNeg) 2 x3) (49 + ((gI S 34 6)).toNatClampNeg) 3 (1 : Int32)) (36 + (x1).toNatClampNeg) 0))) (36 + (x1).toNatClampNeg) 1))) (gI (uI (uI (uI (uI (uI (uI S7 (49 + ((gI S 34 6)).toNatClampNeg) 0 x1) (49 + ((gI S 34 6)).toNatClampNeg) 1 x2) (49 + ((gI S 34 6)).toNatClampNeg) 2 x3) (49 + ((gI S 34 6)).toNatClampNeg) 3 (1 : Int32)) (49 + ((gI S 34 6)).toNatClampNeg) 6 ((gI (uI (uI (uI (uI S7 (49 + ((gI S 34 6)).toNatClampNeg) 0 x1) (49 + ((gI S 34 6)).toNatClampNeg) 1 x2) (49 + ((gI S 34 6)).toNatClampNeg) 2 x3) (49 + ((gI S 34 6)).toNatClampNeg) 3 (1 : Int32)) (36 + (x2).toNatClampNeg) 0) - (gI (uI (uI (uI (uI S7 (49 + ((gI S 34 6)).toNatClampNeg) 0 x1) (49 + ((gI S 34 6)).toNatClampNeg) 1 x2) (49 + ((gI S 34 6)).toNatClampNeg) 2 x3) (49 + ((gI S 34 6)).toNatClampNeg) 3 (1 : Int32)) (36 + (x1).toNatClampNeg) 0))) (49 + ((gI S 34 6)).toNatClampNeg) 7 ((gI (uI (uI (uI (uI (uI S7 (49 + ((gI S 34 6)).toNatClampNeg) 0 x1) (49 + ((gI S 34 6)).toNatClampNeg) 1 x2) (49 + ((gI S 34 6)).toNatClampNeg) 2 x3) (49 + ((gI S 34 6)).toNatClampNeg) 3 (1 : Int32)) (49 + ((gI S 34 6)).toNatClampNeg) 6 ((gI (uI (uI (uI (uI S7 (49 + ((gI S 34 6)).toNatClampNeg) 0 x1) (49 + ((gI S 34 6)).toNatClampNeg) 1 x2) (49 + ((gI S 34 6)).toNatClampNeg) 2 x3) (49 + ((gI S 34 6)).toNatClampNeg) 3 (1 : Int32)) (36 + (x2).toNatClampNeg) 0) - (gI (uI (uI (uI (uI S7 (49 + ((gI S 34 6)).toNatClampNeg) 0 x1) (49 + ((gI S 34 6)).toNatClampNeg) 1 x2) (49 + ((gI S 34 6)).toNatClampNeg) 2 x3) (49 + ((gI S 34 6)).toNatClampNeg) 3 (1 : Int32)) (36 + (x1).toNatClampNeg) 0))) (36 + (x2).toNatClampNeg) 1) - (gI (uI (uI (uI (uI (uI S7 (49 + ((gI S 34 6)).toNatClampNeg) 0 x1) (49 + ((gI S 34 6)).toNatClampNeg) 1 x2) (49 + ((gI S 34 6)).toNatClampNeg) 2 x3) (49 + ((gI S 34 6)).toNatClampNeg) 3 (1 : Int32)) (49 + ((gI S 34 6)).toNatClampNeg) 6 ((gI (uI (uI (uI (uI S7 (49 + ((gI S 34 6)).toNatClampNeg) 0 x1) (49 + ((gI S 34 6)).toNatClampNeg) 1 x2) (49 + ((gI S 34 6)).toNatClampNeg) 2 x3) (49 + ((gI S 34 6)).toNatClampNeg) 3 (1 : Int32)) (36 + (x2).toNatClampNeg) 0) - (gI (uI (uI (uI (uI S7 (49 + ((gI S 34 6)).toNatClampNeg) 0 x1) (49 + ((gI S 34 6)).toNatClampNeg) 1 x2) (49 + ((gI S 34 6)).toNatClampNeg) 2 x3) (49 + ((gI S 34 6)).toNatClampNeg) 3 (1 : Int32)) (36 + (x1).toNatClampNeg) 0))) (36 + (x1).toNatClampNeg) 1))) (49 + ((gI S 34 6)).toNatClampNeg) 6) h24) rfl (Nat.le_of_ble_eq_true rfl) ⟨Nat.le_refl _, Nat.le_refl _⟩ (show J w (d + 2) m_T_addStreet (n0, z0, some (.int z.1), mk c z.2) 125 [some (.ref 34), some (.int x1), some (.int x2), some (.int x3), some (.int x4), some (.int (gI S 34 6)), some (.ref (49 + ((gI S 34 6)).toNatClampNeg))] [.int r22, .int (4 : Int32), .ref (49 + ((gI S 34 6)).toNatClampNeg)] (mk c S23) from ?_)
          refine J.run b_T_addStreet_125_3 k_T_addStreet_125_3 rfl (And.intro (okA_row (S := S23) (b := 49) (cnt := 20) (n := 8) rfl (inb_lt g10) rfl) (show J w (d + 2) m_T_addStreet (n0, z0, some (.int z.1), mk c z.2) 130 [some (.ref 34), some (.int x1), some (.int x2), some (.int x3), some (.int x4), some (.int (gI S 34 6)), some (.ref (49 + ((gI S 34 6)).toNatClampNeg))] [.int (gI S23 (49 + ((gI S 34 6)).toNatClampNeg) 7), .int r22, .int (4 : Int32), .ref (49 + ((gI S 34 6)).toNatClampNeg)] (mk c S23) from ?_))
          obtain ⟨r25, S26, h27, H⟩ := bd_e H
          refine J.callS (y := m_Ma_abs) (av := [.int (gI S23 (49 + ((gI S 34 6)).toNatClampNeg) 7)]) (rest := [.int r22, .int (4 : Int32), .ref (49 + ((gI S 34 6)).toNatClampNeg)]) l_T_60 d_T_addStreet_130 (c_Ma_abs w (d + 0) c  S23 (gI S23 (49 + ((gI S 34 6)).toNatClampNeg) 7) h27) rfl (Nat.le_of_ble_eq_true rfl) ⟨Nat.le_refl _, Nat.le_refl _⟩ (show J w (d + 2) m_T_addStreet (n0, z0, some (.int z.1), mk c z.2) 133 [some (.ref 34), some (.int x1), some (.int x2), some (.int x3), some (.int x4), some (.int (gI S 34 6)), some (.ref (49 + ((gI S 34 6)).toNatClampNeg))] [.int r25, .int r22, .int (4 : Int32), .ref (49 + ((gI S 34 6)).toNatClampNeg)] (mk c S26) from ?_)
          refine J.run b_T_addStreet_133_13 k_T_addStreet_133_13 rfl (And.intro (okB_row (S := S26) (b := 49) (cnt := 20) (n := 8) rfl (inb_lt g10) rfl) (And.intro (okB_row (S := (uI S26 (49 + ((gI S 34 6)).toNatClampNeg) 4 (r22 + r25))) (b := 49) (cnt := 20) (n := 8) rfl (inb_lt g10) rfl) (And.intro (okO_st (S := (uI (uI S26 (49 + ((gI S 34 6)).toNatClampNeg) 4 (r22 + r25)) (49 + ((gI S 34 6)).toNatClampNeg) 5 (0 : Int32))) rfl) (And.intro (okO_st (S := (uI (uI S26 (49 + ((gI S 34 6)).toNatClampNeg) 4 (r22 + r25)) (49 + ((gI S 34 6)).toNatClampNeg) 5 (0 : Int32))) rfl) (show J w (d + 2) m_T_addStreet (n0, z0, some (.int z.1), mk c z.2) 152 [some (.ref 34), some (.int x1), some (.int x2), some (.int x3), some (.int x4), some (.int (gI S 34 6)), some (.ref (49 + ((gI S 34 6)).toNatClampNeg))] [.int (gI S 34 6)] (mk c (uI (uI (uI S26 (49 + ((gI S 34 6)).toNatClampNeg) 4 (r22 + r25)) (49 + ((gI S 34 6)).toNatClampNeg) 5 (0 : Int32)) 34 6 ((gI (uI (uI S26 (49 + ((gI S 34 6)).toNatClampNeg) 4 (r22 + r25)) (49 + ((gI S 34 6)).toNatClampNeg) 5 (0 : Int32)) 34 6) + (1 : Int32)))) from ?_)))))
          obtain rfl := some_e H
          exact J.iret d_T_addStreet_152 rfl rfl
      · have H := ite_t H q9
        refine J.run b_T_addStreet_29_1 k_T_addStreet_29_1 rfl (show J w (d + 2) m_T_addStreet (n0, z0, some (.int z.1), mk c z.2) 31 [some (.ref 34), some (.int x1), some (.int x2), some (.int x3), some (.int x4), some (.int (gI S 34 6)), none] [.int (-2 : Int32)] (mk c S7) from ?_)
        obtain rfl := some_e H
        exact J.iret d_T_addStreet_31 rfl rfl
def b_T_arrowOf_0_6 : List Ins := [(.iload_n 1, 0, 0, 0), (.iconst (1), 0, 0, 0), (.ishr, 0, 0, 0), (.istore_n 3, 0, 0, 0), (.aload_n 0, 0, 0, 0), (.iload_n 3, 0, 0, 0)]
theorem k_T_arrowOf_0_6 : bok m_T_arrowOf 0 b_T_arrowOf_0_6 = true := by decide +kernel
def b_T_arrowOf_26_5 : List Ins := [(.iconst (0), 0, 0, 0), (.istore 4, 0, 0, 0), (.iload_n 1, 0, 0, 0), (.iconst (1), 0, 0, 0), (.iand, 0, 0, 0)]
theorem k_T_arrowOf_26_5 : bok m_T_arrowOf 26 b_T_arrowOf_26_5 = true := by decide +kernel
def b_T_arrowOf_40_2 : List Ins := [(.iload 4, 0, 0, 0), (.ineg, 0, 0, 0)]
theorem k_T_arrowOf_40_2 : bok m_T_arrowOf 40 b_T_arrowOf_40_2 = true := by decide +kernel
def b_T_arrowOf_35_1 : List Ins := [(.iload 4, 0, 0, 0)]
theorem k_T_arrowOf_35_1 : bok m_T_arrowOf 35 b_T_arrowOf_35_1 = true := by decide +kernel
def b_T_arrowOf_12_8 : List Ins := [(.aload_n 0, 0, 0, 0), (.getfield 16, 1, 1, 2), (.iload_n 3, 0, 0, 0), (.aaload, 0, 0, 0), (.bipush (6), 0, 0, 0), (.iload_n 2, 0, 0, 0), (.iadd, 0, 0, 0), (.iaload, 0, 0, 0)]
theorem k_T_arrowOf_12_8 : bok m_T_arrowOf 12 b_T_arrowOf_12_8 = true := by decide +kernel
def b_T_arrowOf_27_4 : List Ins := [(.istore 4, 0, 0, 0), (.iload_n 1, 0, 0, 0), (.iconst (1), 0, 0, 0), (.iand, 0, 0, 0)]
theorem k_T_arrowOf_27_4 : bok m_T_arrowOf 27 b_T_arrowOf_27_4 = true := by decide +kernel
theorem d_T_arrowOf_6 : decode m_T_arrowOf.2.1 6 = .ok (.invokevirtual 43, 3) := by decide +kernel
theorem d_T_arrowOf_9 : decode m_T_arrowOf.2.1 9 = .ok (.ifCond .eq (17), 3) := by decide +kernel
theorem d_T_arrowOf_32 : decode m_T_arrowOf.2.1 32 = .ok (.ifCond .ne (8), 3) := by decide +kernel
theorem d_T_arrowOf_43 : decode m_T_arrowOf.2.1 43 = .ok (.ireturn, 1) := by decide +kernel
theorem d_T_arrowOf_37 : decode m_T_arrowOf.2.1 37 = .ok (.goto (6), 3) := by decide +kernel
theorem d_T_arrowOf_23 : decode m_T_arrowOf.2.1 23 = .ok (.goto (4), 3) := by decide +kernel
def f_T_arrowOf  (S : hs) (x1 : Int32) (x2 : Int32) : Option (Int32 × hs) := bd (f_T_hasStreet  S (x1 >>> ((1 : Int32) &&& 31))) fun r1 S2 => (if r1 = 0 then (if (x1 &&& (1 : Int32)) = 0 then some ((0 : Int32), S2) else some ((-(0 : Int32)), S2)) else ck (inb (x1 >>> ((1 : Int32) &&& 31)) 20) (ck (inb ((6 : Int32) + x2) 8) ((if (x1 &&& (1 : Int32)) = 0 then some ((gI S2 (49 + ((x1 >>> ((1 : Int32) &&& 31))).toNatClampNeg) (((6 : Int32) + x2)).toNatClampNeg), S2) else some ((-(gI S2 (49 + ((x1 >>> ((1 : Int32) &&& 31))).toNatClampNeg) (((6 : Int32) + x2)).toNatClampNeg)), S2)))))
theorem c_T_arrowOf (w : Wd) (d : Nat) (c : cx)   (S : hs) (x1 : Int32) (x2 : Int32)  {z : Int32 × hs} (H : f_T_arrowOf S x1 x2 = some z) : Cl w (d + 2) m_T_arrowOf [.ref 34, .int x1, .int x2] (mk c S) (some (.int z.1)) (mk c z.2) := by
  refine Cl.of (Nat.le_refl _) (Nat.le_refl _) (by decide +kernel) (Nat.le_of_ble_eq_true rfl) ?_
  unfold f_T_arrowOf at H
  generalize hN (mk c S) = n0
  generalize hZ (mk c S) = z0
  show J w (d + 2) m_T_arrowOf (n0, z0, some (.int z.1), mk c z.2) 0 [some (.ref 34), some (.int x1), some (.int x2), none, none] [] (mk c S)
  refine J.run b_T_arrowOf_0_6 k_T_arrowOf_0_6 rfl (show J w (d + 2) m_T_arrowOf (n0, z0, some (.int z.1), mk c z.2) 6 [some (.ref 34), some (.int x1), some (.int x2), some (.int (x1 >>> ((1 : Int32) &&& 31))), none] [.int (x1 >>> ((1 : Int32) &&& 31)), .ref 34] (mk c S) from ?_)
  obtain ⟨r1, S2, h3, H⟩ := bd_e H
  refine J.callV (y := m_T_hasStreet) (av := [.int (x1 >>> ((1 : Int32) &&& 31))]) (rest := []) (q := 34) l_T_43 d_T_arrowOf_6 (isC_st rfl rfl) (c_T_hasStreet w (d + 0) c  S (x1 >>> ((1 : Int32) &&& 31)) h3) rfl (Nat.le_of_ble_eq_true rfl) ⟨Nat.le_refl _, Nat.le_refl _⟩ (show J w (d + 2) m_T_arrowOf (n0, z0, some (.int z.1), mk c z.2) 9 [some (.ref 34), some (.int x1), some (.int x2), some (.int (x1 >>> ((1 : Int32) &&& 31))), none] [.int r1] (mk c S2) from ?_)
  refine J.zeq (tgt := 26) d_T_arrowOf_9 rfl (fun q4 => ?_) (fun q4 => ?_)
  · have H := ite_t H q4
    refine J.run b_T_arrowOf_26_5 k_T_arrowOf_26_5 rfl (show J w (d + 2) m_T_arrowOf (n0, z0, some (.int z.1), mk c z.2) 32 [some (.ref 34), some (.int x1), some (.int x2), some (.int (x1 >>> ((1 : Int32) &&& 31))), some (.int (0 : Int32))] [.int (x1 &&& (1 : Int32))] (mk c S2) from ?_)
    refine J.zne (tgt := 40) d_T_arrowOf_32 rfl (fun q5 => ?_) (fun q5 => ?_)
    · have H := ite_f H q5
      refine J.run b_T_arrowOf_40_2 k_T_arrowOf_40_2 rfl (show J w (d + 2) m_T_arrowOf (n0, z0, some (.int z.1), mk c z.2) 43 [some (.ref 34), some (.int x1), some (.int x2), some (.int (x1 >>> ((1 : Int32) &&& 31))), some (.int (0 : Int32))] [.int (-(0 : Int32))] (mk c S2) from ?_)
      obtain rfl := some_e H
      exact J.iret d_T_arrowOf_43 rfl rfl
    · have H := ite_t H q5
      refine J.run b_T_arrowOf_35_1 k_T_arrowOf_35_1 rfl (show J w (d + 2) m_T_arrowOf (n0, z0, some (.int z.1), mk c z.2) 37 [some (.ref 34), some (.int x1), some (.int x2), some (.int (x1 >>> ((1 : Int32) &&& 31))), some (.int (0 : Int32))] [.int (0 : Int32)] (mk c S2) from ?_)
      refine J.goto (tgt := 43) d_T_arrowOf_37 rfl ?_
      obtain rfl := some_e H
      exact J.iret d_T_arrowOf_43 rfl rfl
  · have H := ite_f H q4
    obtain ⟨g6, H⟩ := ck_e H
    obtain ⟨g7, H⟩ := ck_e H
    refine J.run b_T_arrowOf_12_8 k_T_arrowOf_12_8 rfl (And.intro (okO_st (S := S2) rfl) (And.intro (okQ_st (S := S2) (k := 23) (n := 20) rfl rfl g6) (And.intro (okA_row (S := S2) (b := 49) (cnt := 20) (n := 8) rfl (inb_lt g6) g7) (show J w (d + 2) m_T_arrowOf (n0, z0, some (.int z.1), mk c z.2) 23 [some (.ref 34), some (.int x1), some (.int x2), some (.int (x1 >>> ((1 : Int32) &&& 31))), none] [.int (gI S2 (49 + ((x1 >>> ((1 : Int32) &&& 31))).toNatClampNeg) (((6 : Int32) + x2)).toNatClampNeg)] (mk c S2) from ?_))))
    refine J.goto (tgt := 27) d_T_arrowOf_23 rfl ?_
    refine J.run b_T_arrowOf_27_4 k_T_arrowOf_27_4 rfl (show J w (d + 2) m_T_arrowOf (n0, z0, some (.int z.1), mk c z.2) 32 [some (.ref 34), some (.int x1), some (.int x2), some (.int (x1 >>> ((1 : Int32) &&& 31))), some (.int (gI S2 (49 + ((x1 >>> ((1 : Int32) &&& 31))).toNatClampNeg) (((6 : Int32) + x2)).toNatClampNeg))] [.int (x1 &&& (1 : Int32))] (mk c S2) from ?_)
    refine J.zne (tgt := 40) d_T_arrowOf_32 rfl (fun q8 => ?_) (fun q8 => ?_)
    · have H := ite_f H q8
      refine J.run b_T_arrowOf_40_2 k_T_arrowOf_40_2 rfl (show J w (d + 2) m_T_arrowOf (n0, z0, some (.int z.1), mk c z.2) 43 [some (.ref 34), some (.int x1), some (.int x2), some (.int (x1 >>> ((1 : Int32) &&& 31))), some (.int (gI S2 (49 + ((x1 >>> ((1 : Int32) &&& 31))).toNatClampNeg) (((6 : Int32) + x2)).toNatClampNeg))] [.int (-(gI S2 (49 + ((x1 >>> ((1 : Int32) &&& 31))).toNatClampNeg) (((6 : Int32) + x2)).toNatClampNeg))] (mk c S2) from ?_)
      obtain rfl := some_e H
      exact J.iret d_T_arrowOf_43 rfl rfl
    · have H := ite_t H q8
      refine J.run b_T_arrowOf_35_1 k_T_arrowOf_35_1 rfl (show J w (d + 2) m_T_arrowOf (n0, z0, some (.int z.1), mk c z.2) 37 [some (.ref 34), some (.int x1), some (.int x2), some (.int (x1 >>> ((1 : Int32) &&& 31))), some (.int (gI S2 (49 + ((x1 >>> ((1 : Int32) &&& 31))).toNatClampNeg) (((6 : Int32) + x2)).toNatClampNeg))] [.int (gI S2 (49 + ((x1 >>> ((1 : Int32) &&& 31))).toNatClampNeg) (((6 : Int32) + x2)).toNatClampNeg)] (mk c S2) from ?_)
      refine J.goto (tgt := 43) d_T_arrowOf_37 rfl ?_
      obtain rfl := some_e H
      exact J.iret d_T_arrowOf_43 rfl rfl
def b_T_kindOf_0_2 : List Ins := [(.aload_n 0, 0, 0, 0), (.iload_n 1, 0, 0, 0)]
theorem k_T_kindOf_0_2 : bok m_T_kindOf 0 b_T_kindOf_0_2 = true := by decide +kernel
def b_T_kindOf_29_1 : List Ins := [(.iconst (-1), 0, 0, 0)]
theorem k_T_kindOf_29_1 : bok m_T_kindOf 29 b_T_kindOf_29_1 = true := by decide +kernel
def b_T_kindOf_8_2 : List Ins := [(.aload_n 0, 0, 0, 0), (.iload_n 2, 0, 0, 0)]
theorem k_T_kindOf_8_2 : bok m_T_kindOf 8 b_T_kindOf_8_2 = true := by decide +kernel
def b_T_kindOf_16_2 : List Ins := [(.aload_n 0, 0, 0, 0), (.iload_n 1, 0, 0, 0)]
theorem k_T_kindOf_16_2 : bok m_T_kindOf 16 b_T_kindOf_16_2 = true := by decide +kernel
def b_T_kindOf_21_2 : List Ins := [(.aload_n 0, 0, 0, 0), (.iload_n 2, 0, 0, 0)]
theorem k_T_kindOf_21_2 : bok m_T_kindOf 21 b_T_kindOf_21_2 = true := by decide +kernel
def b_T_kindOf_31_3 : List Ins := [(.aload_n 0, 0, 0, 0), (.iload_n 1, 0, 0, 0), (.iconst (0), 0, 0, 0)]
theorem k_T_kindOf_31_3 : bok m_T_kindOf 31 b_T_kindOf_31_3 = true := by decide +kernel
def b_T_kindOf_37_4 : List Ins := [(.istore_n 3, 0, 0, 0), (.aload_n 0, 0, 0, 0), (.iload_n 1, 0, 0, 0), (.iconst (1), 0, 0, 0)]
theorem k_T_kindOf_37_4 : bok m_T_kindOf 37 b_T_kindOf_37_4 = true := by decide +kernel
def b_T_kindOf_44_4 : List Ins := [(.istore 4, 0, 0, 0), (.aload_n 0, 0, 0, 0), (.iload_n 2, 0, 0, 0), (.iconst (0), 0, 0, 0)]
theorem k_T_kindOf_44_4 : bok m_T_kindOf 44 b_T_kindOf_44_4 = true := by decide +kernel
def b_T_kindOf_52_4 : List Ins := [(.istore 5, 0, 0, 0), (.aload_n 0, 0, 0, 0), (.iload_n 2, 0, 0, 0), (.iconst (1), 0, 0, 0)]
theorem k_T_kindOf_52_4 : bok m_T_kindOf 52 b_T_kindOf_52_4 = true := by decide +kernel
def b_T_kindOf_60_18 : List Ins := [(.istore 6, 0, 0, 0), (.iload_n 3, 0, 0, 0), (.iload 6, 0, 0, 0), (.imul, 0, 0, 0), (.iload 4, 0, 0, 0), (.iload 5, 0, 0, 0), (.imul, 0, 0, 0), (.isub, 0, 0, 0), (.istore 7, 0, 0, 0), (.iload_n 3, 0, 0, 0), (.iload 5, 0, 0, 0), (.imul, 0, 0, 0), (.iload 4, 0, 0, 0), (.iload 6, 0, 0, 0), (.imul, 0, 0, 0), (.iadd, 0, 0, 0), (.istore 8, 0, 0, 0), (.iload 7, 0, 0, 0)]
theorem k_T_kindOf_60_18 : bok m_T_kindOf 60 b_T_kindOf_60_18 = true := by decide +kernel
def b_T_kindOf_102_1 : List Ins := [(.iload 7, 0, 0, 0)]
theorem k_T_kindOf_102_1 : bok m_T_kindOf 102 b_T_kindOf_102_1 = true := by decide +kernel
def b_T_kindOf_109_1 : List Ins := [(.iload 8, 0, 0, 0)]
theorem k_T_kindOf_109_1 : bok m_T_kindOf 109 b_T_kindOf_109_1 = true := by decide +kernel
def b_T_kindOf_118_1 : List Ins := [(.iconst (5), 0, 0, 0)]
theorem k_T_kindOf_118_1 : bok m_T_kindOf 118 b_T_kindOf_118_1 = true := by decide +kernel
def b_T_kindOf_114_1 : List Ins := [(.iconst (1), 0, 0, 0)]
theorem k_T_kindOf_114_1 : bok m_T_kindOf 114 b_T_kindOf_114_1 = true := by decide +kernel
def b_T_kindOf_107_1 : List Ins := [(.iconst (4), 0, 0, 0)]
theorem k_T_kindOf_107_1 : bok m_T_kindOf 107 b_T_kindOf_107_1 = true := by decide +kernel
def b_T_kindOf_91_1 : List Ins := [(.iload 8, 0, 0, 0)]
theorem k_T_kindOf_91_1 : bok m_T_kindOf 91 b_T_kindOf_91_1 = true := by decide +kernel
def b_T_kindOf_100_1 : List Ins := [(.iconst (2), 0, 0, 0)]
theorem k_T_kindOf_100_1 : bok m_T_kindOf 100 b_T_kindOf_100_1 = true := by decide +kernel
def b_T_kindOf_96_1 : List Ins := [(.iconst (3), 0, 0, 0)]
theorem k_T_kindOf_96_1 : bok m_T_kindOf 96 b_T_kindOf_96_1 = true := by decide +kernel
theorem d_T_kindOf_2 : decode m_T_kindOf.2.1 2 = .ok (.invokevirtual 47, 3) := by decide +kernel
theorem d_T_kindOf_5 : decode m_T_kindOf.2.1 5 = .ok (.ifCond .eq (24), 3) := by decide +kernel
theorem d_T_kindOf_30 : decode m_T_kindOf.2.1 30 = .ok (.ireturn, 1) := by decide +kernel
theorem d_T_kindOf_10 : decode m_T_kindOf.2.1 10 = .ok (.invokevirtual 47, 3) := by decide +kernel
theorem d_T_kindOf_13 : decode m_T_kindOf.2.1 13 = .ok (.ifCond .eq (16), 3) := by decide +kernel
theorem d_T_kindOf_18 : decode m_T_kindOf.2.1 18 = .ok (.invokevirtual 68, 3) := by decide +kernel
theorem d_T_kindOf_23 : decode m_T_kindOf.2.1 23 = .ok (.invokevirtual 65, 3) := by decide +kernel
theorem d_T_kindOf_26 : decode m_T_kindOf.2.1 26 = .ok (.if_icmp .eq (5), 3) := by decide +kernel
theorem d_T_kindOf_34 : decode m_T_kindOf.2.1 34 = .ok (.invokevirtual 75, 3) := by decide +kernel
theorem d_T_kindOf_41 : decode m_T_kindOf.2.1 41 = .ok (.invokevirtual 75, 3) := by decide +kernel
theorem d_T_kindOf_49 : decode m_T_kindOf.2.1 49 = .ok (.invokevirtual 75, 3) := by decide +kernel
theorem d_T_kindOf_57 : decode m_T_kindOf.2.1 57 = .ok (.invokevirtual 75, 3) := by decide +kernel
theorem d_T_kindOf_88 : decode m_T_kindOf.2.1 88 = .ok (.ifCond .le (14), 3) := by decide +kernel
theorem d_T_kindOf_104 : decode m_T_kindOf.2.1 104 = .ok (.ifCond .ge (5), 3) := by decide +kernel
theorem d_T_kindOf_111 : decode m_T_kindOf.2.1 111 = .ok (.ifCond .le (7), 3) := by decide +kernel
theorem d_T_kindOf_119 : decode m_T_kindOf.2.1 119 = .ok (.ireturn, 1) := by decide +kernel
theorem d_T_kindOf_115 : decode m_T_kindOf.2.1 115 = .ok (.goto (4), 3) := by decide +kernel
theorem d_T_kindOf_108 : decode m_T_kindOf.2.1 108 = .ok (.ireturn, 1) := by decide +kernel
theorem d_T_kindOf_93 : decode m_T_kindOf.2.1 93 = .ok (.ifCond .ge (7), 3) := by decide +kernel
theorem d_T_kindOf_101 : decode m_T_kindOf.2.1 101 = .ok (.ireturn, 1) := by decide +kernel
theorem d_T_kindOf_97 : decode m_T_kindOf.2.1 97 = .ok (.goto (4), 3) := by decide +kernel
def f_T_kindOf  (S : hs) (x1 : Int32) (x2 : Int32) : Option (Int32 × hs) := bd (f_T_hasWay  S x1) fun r1 S2 => (if r1 = 0 then some ((-1 : Int32), S2) else bd (f_T_hasWay  S2 x2) fun r5 S6 => (if r5 = 0 then some ((-1 : Int32), S6) else bd (f_T_endOf  S6 x1) fun r9 S10 => bd (f_T_beginOf  S10 x2) fun r12 S13 => (if r9 = r12 then bd (f_T_arrowOf  S13 x1 (0 : Int32)) fun r16 S17 => bd (f_T_arrowOf  S17 x1 (1 : Int32)) fun r19 S20 => bd (f_T_arrowOf  S20 x2 (0 : Int32)) fun r22 S23 => bd (f_T_arrowOf  S23 x2 (1 : Int32)) fun r25 S26 => (if ((r16 * r25) - (r19 * r22)) ≤ 0 then (if 0 ≤ ((r16 * r25) - (r19 * r22)) then (if ((r16 * r22) + (r19 * r25)) ≤ 0 then some ((5 : Int32), S26) else some ((1 : Int32), S26)) else some ((4 : Int32), S26)) else (if 0 ≤ ((r16 * r22) + (r19 * r25)) then some ((2 : Int32), S26) else some ((3 : Int32), S26))) else some ((-1 : Int32), S13))))
theorem c_T_kindOf (w : Wd) (d : Nat) (c : cx)   (S : hs) (x1 : Int32) (x2 : Int32)  {z : Int32 × hs} (H : f_T_kindOf S x1 x2 = some z) : Cl w (d + 3) m_T_kindOf [.ref 34, .int x1, .int x2] (mk c S) (some (.int z.1)) (mk c z.2) := by
  refine Cl.of (Nat.le_refl _) (Nat.le_refl _) (by decide +kernel) (Nat.le_of_ble_eq_true rfl) ?_
  unfold f_T_kindOf at H
  generalize hN (mk c S) = n0
  generalize hZ (mk c S) = z0
  show J w (d + 3) m_T_kindOf (n0, z0, some (.int z.1), mk c z.2) 0 [some (.ref 34), some (.int x1), some (.int x2), none, none, none, none, none, none] [] (mk c S)
  refine J.run b_T_kindOf_0_2 k_T_kindOf_0_2 rfl (show J w (d + 3) m_T_kindOf (n0, z0, some (.int z.1), mk c z.2) 2 [some (.ref 34), some (.int x1), some (.int x2), none, none, none, none, none, none] [.int x1, .ref 34] (mk c S) from ?_)
  obtain ⟨r1, S2, h3, H⟩ := bd_e H
  refine J.callV (y := m_T_hasWay) (av := [.int x1]) (rest := []) (q := 34) l_T_47 d_T_kindOf_2 (isC_st rfl rfl) (c_T_hasWay w (d + 0) c  S x1 h3) rfl (Nat.le_of_ble_eq_true rfl) ⟨Nat.le_refl _, Nat.le_refl _⟩ (show J w (d + 3) m_T_kindOf (n0, z0, some (.int z.1), mk c z.2) 5 [some (.ref 34), some (.int x1), some (.int x2), none, none, none, none, none, none] [.int r1] (mk c S2) from ?_)
  refine J.zeq (tgt := 29) d_T_kindOf_5 rfl (fun q4 => ?_) (fun q4 => ?_)
  · have H := ite_t H q4
    refine J.run b_T_kindOf_29_1 k_T_kindOf_29_1 rfl (show J w (d + 3) m_T_kindOf (n0, z0, some (.int z.1), mk c z.2) 30 [some (.ref 34), some (.int x1), some (.int x2), none, none, none, none, none, none] [.int (-1 : Int32)] (mk c S2) from ?_)
    obtain rfl := some_e H
    exact J.iret d_T_kindOf_30 rfl rfl
  · have H := ite_f H q4
    refine J.run b_T_kindOf_8_2 k_T_kindOf_8_2 rfl (show J w (d + 3) m_T_kindOf (n0, z0, some (.int z.1), mk c z.2) 10 [some (.ref 34), some (.int x1), some (.int x2), none, none, none, none, none, none] [.int x2, .ref 34] (mk c S2) from ?_)
    obtain ⟨r5, S6, h7, H⟩ := bd_e H
    refine J.callV (y := m_T_hasWay) (av := [.int x2]) (rest := []) (q := 34) l_T_47 d_T_kindOf_10 (isC_st rfl rfl) (c_T_hasWay w (d + 0) c  S2 x2 h7) rfl (Nat.le_of_ble_eq_true rfl) ⟨Nat.le_refl _, Nat.le_refl _⟩ (show J w (d + 3) m_T_kindOf (n0, z0, some (.int z.1), mk c z.2) 13 [some (.ref 34), some (.int x1), some (.int x2), none, none, none, none, none, none] [.int r5] (mk c S6) from ?_)
    refine J.zeq (tgt := 29) d_T_kindOf_13 rfl (fun q8 => ?_) (fun q8 => ?_)
    · have H := ite_t H q8
      refine J.run b_T_kindOf_29_1 k_T_kindOf_29_1 rfl (show J w (d + 3) m_T_kindOf (n0, z0, some (.int z.1), mk c z.2) 30 [some (.ref 34), some (.int x1), some (.int x2), none, none, none, none, none, none] [.int (-1 : Int32)] (mk c S6) from ?_)
      obtain rfl := some_e H
      exact J.iret d_T_kindOf_30 rfl rfl
    · have H := ite_f H q8
      refine J.run b_T_kindOf_16_2 k_T_kindOf_16_2 rfl (show J w (d + 3) m_T_kindOf (n0, z0, some (.int z.1), mk c z.2) 18 [some (.ref 34), some (.int x1), some (.int x2), none, none, none, none, none, none] [.int x1, .ref 34] (mk c S6) from ?_)
      obtain ⟨r9, S10, h11, H⟩ := bd_e H
      refine J.callV (y := m_T_endOf) (av := [.int x1]) (rest := []) (q := 34) l_T_68 d_T_kindOf_18 (isC_st rfl rfl) (c_T_endOf w (d + 0) c  S6 x1 h11) rfl (Nat.le_of_ble_eq_true rfl) ⟨Nat.le_refl _, Nat.le_refl _⟩ (show J w (d + 3) m_T_kindOf (n0, z0, some (.int z.1), mk c z.2) 21 [some (.ref 34), some (.int x1), some (.int x2), none, none, none, none, none, none] [.int r9] (mk c S10) from ?_)
      refine J.run b_T_kindOf_21_2 k_T_kindOf_21_2 rfl (show J w (d + 3) m_T_kindOf (n0, z0, some (.int z.1), mk c z.2) 23 [some (.ref 34), some (.int x1), some (.int x2), none, none, none, none, none, none] [.int x2, .ref 34, .int r9] (mk c S10) from ?_)
      obtain ⟨r12, S13, h14, H⟩ := bd_e H
      refine J.callV (y := m_T_beginOf) (av := [.int x2]) (rest := [.int r9]) (q := 34) l_T_65 d_T_kindOf_23 (isC_st rfl rfl) (c_T_beginOf w (d + 0) c  S10 x2 h14) rfl (Nat.le_of_ble_eq_true rfl) ⟨Nat.le_refl _, Nat.le_refl _⟩ (show J w (d + 3) m_T_kindOf (n0, z0, some (.int z.1), mk c z.2) 26 [some (.ref 34), some (.int x1), some (.int x2), none, none, none, none, none, none] [.int r12, .int r9] (mk c S13) from ?_)
      refine J.ceq (tgt := 31) d_T_kindOf_26 rfl (fun q15 => ?_) (fun q15 => ?_)
      · have H := ite_t H q15
        refine J.run b_T_kindOf_31_3 k_T_kindOf_31_3 rfl (show J w (d + 3) m_T_kindOf (n0, z0, some (.int z.1), mk c z.2) 34 [some (.ref 34), some (.int x1), some (.int x2), none, none, none, none, none, none] [.int (0 : Int32), .int x1, .ref 34] (mk c S13) from ?_)
        obtain ⟨r16, S17, h18, H⟩ := bd_e H
        refine J.callV (y := m_T_arrowOf) (av := [.int x1, .int (0 : Int32)]) (rest := []) (q := 34) l_T_75 d_T_kindOf_34 (isC_st rfl rfl) (c_T_arrowOf w (d + 0) c  S13 x1 (0 : Int32) h18) rfl (Nat.le_of_ble_eq_true rfl) ⟨Nat.le_refl _, Nat.le_refl _⟩ (show J w (d + 3) m_T_kindOf (n0, z0, some (.int z.1), mk c z.2) 37 [some (.ref 34), some (.int x1), some (.int x2), none, none, none, none, none, none] [.int r16] (mk c S17) from ?_)
        refine J.run b_T_kindOf_37_4 k_T_kindOf_37_4 rfl (show J w (d + 3) m_T_kindOf (n0, z0, some (.int z.1), mk c z.2) 41 [some (.ref 34), some (.int x1), some (.int x2), some (.int r16), none, none, none, none, none] [.int (1 : Int32), .int x1, .ref 34] (mk c S17) from ?_)
        obtain ⟨r19, S20, h21, H⟩ := bd_e H
        refine J.callV (y := m_T_arrowOf) (av := [.int x1, .int (1 : Int32)]) (rest := []) (q := 34) l_T_75 d_T_kindOf_41 (isC_st rfl rfl) (c_T_arrowOf w (d + 0) c  S17 x1 (1 : Int32) h21) rfl (Nat.le_of_ble_eq_true rfl) ⟨Nat.le_refl _, Nat.le_refl _⟩ (show J w (d + 3) m_T_kindOf (n0, z0, some (.int z.1), mk c z.2) 44 [some (.ref 34), some (.int x1), some (.int x2), some (.int r16), none, none, none, none, none] [.int r19] (mk c S20) from ?_)
        refine J.run b_T_kindOf_44_4 k_T_kindOf_44_4 rfl (show J w (d + 3) m_T_kindOf (n0, z0, some (.int z.1), mk c z.2) 49 [some (.ref 34), some (.int x1), some (.int x2), some (.int r16), some (.int r19), none, none, none, none] [.int (0 : Int32), .int x2, .ref 34] (mk c S20) from ?_)
        obtain ⟨r22, S23, h24, H⟩ := bd_e H
        refine J.callV (y := m_T_arrowOf) (av := [.int x2, .int (0 : Int32)]) (rest := []) (q := 34) l_T_75 d_T_kindOf_49 (isC_st rfl rfl) (c_T_arrowOf w (d + 0) c  S20 x2 (0 : Int32) h24) rfl (Nat.le_of_ble_eq_true rfl) ⟨Nat.le_refl _, Nat.le_refl _⟩ (show J w (d + 3) m_T_kindOf (n0, z0, some (.int z.1), mk c z.2) 52 [some (.ref 34), some (.int x1), some (.int x2), some (.int r16), some (.int r19), none, none, none, none] [.int r22] (mk c S23) from ?_)
        refine J.run b_T_kindOf_52_4 k_T_kindOf_52_4 rfl (show J w (d + 3) m_T_kindOf (n0, z0, some (.int z.1), mk c z.2) 57 [some (.ref 34), some (.int x1), some (.int x2), some (.int r16), some (.int r19), some (.int r22), none, none, none] [.int (1 : Int32), .int x2, .ref 34] (mk c S23) from ?_)
        obtain ⟨r25, S26, h27, H⟩ := bd_e H
        refine J.callV (y := m_T_arrowOf) (av := [.int x2, .int (1 : Int32)]) (rest := []) (q := 34) l_T_75 d_T_kindOf_57 (isC_st rfl rfl) (c_T_arrowOf w (d + 0) c  S23 x2 (1 : Int32) h27) rfl (Nat.le_of_ble_eq_true rfl) ⟨Nat.le_refl _, Nat.le_refl _⟩ (show J w (d + 3) m_T_kindOf (n0, z0, some (.int z.1), mk c z.2) 60 [some (.ref 34), some (.int x1), some (.int x2), some (.int r16), some (.int r19), some (.int r22), none, none, none] [.int r25] (mk c S26) from ?_)
        refine J.run b_T_kindOf_60_18 k_T_kindOf_60_18 rfl (show J w (d + 3) m_T_kindOf (n0, z0, some (.int z.1), mk c z.2) 88 [some (.ref 34), some (.int x1), some (.int x2), some (.int r16), some (.int r19), some (.int r22), some (.int r25), some (.int ((r16 * r25) - (r19 * r22))), some (.int ((r16 * r22) + (r19 * r25)))] [.int ((r16 * r25) - (r19 * r22))] (mk c S26) from ?_)
        refine J.zle (tgt := 102) d_T_kindOf_88 rfl (fun q28 => ?_) (fun q28 => ?_)
        · have H := ite_t H q28
          refine J.run b_T_kindOf_102_1 k_T_kindOf_102_1 rfl (show J w (d + 3) m_T_kindOf (n0, z0, some (.int z.1), mk c z.2) 104 [some (.ref 34), some (.int x1), some (.int x2), some (.int r16), some (.int r19), some (.int r22), some (.int r25), some (.int ((r16 * r25) - (r19 * r22))), some (.int ((r16 * r22) + (r19 * r25)))] [.int ((r16 * r25) - (r19 * r22))] (mk c S26) from ?_)
          refine J.zge (tgt := 109) d_T_kindOf_104 rfl (fun q29 => ?_) (fun q29 => ?_)
          · have H := ite_t H q29
            refine J.run b_T_kindOf_109_1 k_T_kindOf_109_1 rfl (show J w (d + 3) m_T_kindOf (n0, z0, some (.int z.1), mk c z.2) 111 [some (.ref 34), some (.int x1), some (.int x2), some (.int r16), some (.int r19), some (.int r22), some (.int r25), some (.int ((r16 * r25) - (r19 * r22))), some (.int ((r16 * r22) + (r19 * r25)))] [.int ((r16 * r22) + (r19 * r25))] (mk c S26) from ?_)
            refine J.zle (tgt := 118) d_T_kindOf_111 rfl (fun q30 => ?_) (fun q30 => ?_)
            · have H := ite_t H q30
              refine J.run b_T_kindOf_118_1 k_T_kindOf_118_1 rfl (show J w (d + 3) m_T_kindOf (n0, z0, some (.int z.1), mk c z.2) 119 [some (.ref 34), some (.int x1), some (.int x2), some (.int r16), some (.int r19), some (.int r22), some (.int r25), some (.int ((r16 * r25) - (r19 * r22))), some (.int ((r16 * r22) + (r19 * r25)))] [.int (5 : Int32)] (mk c S26) from ?_)
              obtain rfl := some_e H
              exact J.iret d_T_kindOf_119 rfl rfl
            · have H := ite_f H q30
              refine J.run b_T_kindOf_114_1 k_T_kindOf_114_1 rfl (show J w (d + 3) m_T_kindOf (n0, z0, some (.int z.1), mk c z.2) 115 [some (.ref 34), some (.int x1), some (.int x2), some (.int r16), some (.int r19), some (.int r22), some (.int r25), some (.int ((r16 * r25) - (r19 * r22))), some (.int ((r16 * r22) + (r19 * r25)))] [.int (1 : Int32)] (mk c S26) from ?_)
              refine J.goto (tgt := 119) d_T_kindOf_115 rfl ?_
              obtain rfl := some_e H
              exact J.iret d_T_kindOf_119 rfl rfl
          · have H := ite_f H q29
            refine J.run b_T_kindOf_107_1 k_T_kindOf_107_1 rfl (show J w (d + 3) m_T_kindOf (n0, z0, some (.int z.1), mk c z.2) 108 [some (.ref 34), some (.int x1), some (.int x2), some (.int r16), some (.int r19), some (.int r22), some (.int r25), some (.int ((r16 * r25) - (r19 * r22))), some (.int ((r16 * r22) + (r19 * r25)))] [.int (4 : Int32)] (mk c S26) from ?_)
            obtain rfl := some_e H
            exact J.iret d_T_kindOf_108 rfl rfl
        · have H := ite_f H q28
          refine J.run b_T_kindOf_91_1 k_T_kindOf_91_1 rfl (show J w (d + 3) m_T_kindOf (n0, z0, some (.int z.1), mk c z.2) 93 [some (.ref 34), some (.int x1), some (.int x2), some (.int r16), some (.int r19), some (.int r22), some (.int r25), some (.int ((r16 * r25) - (r19 * r22))), some (.int ((r16 * r22) + (r19 * r25)))] [.int ((r16 * r22) + (r19 * r25))] (mk c S26) from ?_)
          refine J.zge (tgt := 100) d_T_kindOf_93 rfl (fun q31 => ?_) (fun q31 => ?_)
          · have H := ite_t H q31
            refine J.run b_T_kindOf_100_1 k_T_kindOf_100_1 rfl (show J w (d + 3) m_T_kindOf (n0, z0, some (.int z.1), mk c z.2) 101 [some (.ref 34), some (.int x1), some (.int x2), some (.int r16), some (.int r19), some (.int r22), some (.int r25), some (.int ((r16 * r25) - (r19 * r22))), some (.int ((r16 * r22) + (r19 * r25)))] [.int (2 : Int32)] (mk c S26) from ?_)
            obtain rfl := some_e H
            exact J.iret d_T_kindOf_101 rfl rfl
          · have H := ite_f H q31
            refine J.run b_T_kindOf_96_1 k_T_kindOf_96_1 rfl (show J w (d + 3) m_T_kindOf (n0, z0, some (.int z.1), mk c z.2) 97 [some (.ref 34), some (.int x1), some (.int x2), some (.int r16), some (.int r19), some (.int r22), some (.int r25), some (.int ((r16 * r25) - (r19 * r22))), some (.int ((r16 * r22) + (r19 * r25)))] [.int (3 : Int32)] (mk c S26) from ?_)
            refine J.goto (tgt := 101) d_T_kindOf_97 rfl ?_
            obtain rfl := some_e H
            exact J.iret d_T_kindOf_101 rfl rfl
      · have H := ite_f H q15
        refine J.run b_T_kindOf_29_1 k_T_kindOf_29_1 rfl (show J w (d + 3) m_T_kindOf (n0, z0, some (.int z.1), mk c z.2) 30 [some (.ref 34), some (.int x1), some (.int x2), none, none, none, none, none, none] [.int (-1 : Int32)] (mk c S13) from ?_)
        obtain rfl := some_e H
        exact J.iret d_T_kindOf_30 rfl rfl
def b_T_turnNow_0_2 : List Ins := [(.aload_n 0, 0, 0, 0), (.iload_n 1, 0, 0, 0)]
theorem k_T_turnNow_0_2 : bok m_T_turnNow 0 b_T_turnNow_0_2 = true := by decide +kernel
def b_T_turnNow_25_1 : List Ins := [(.iconst (-1), 0, 0, 0)]
theorem k_T_turnNow_25_1 : bok m_T_turnNow 25 b_T_turnNow_25_1 = true := by decide +kernel
def b_T_turnNow_8_2 : List Ins := [(.aload_n 0, 0, 0, 0), (.iload_n 2, 0, 0, 0)]
theorem k_T_turnNow_8_2 : bok m_T_turnNow 8 b_T_turnNow_8_2 = true := by decide +kernel
def b_T_turnNow_16_3 : List Ins := [(.aload_n 0, 0, 0, 0), (.iload_n 1, 0, 0, 0), (.iload_n 2, 0, 0, 0)]
theorem k_T_turnNow_16_3 : bok m_T_turnNow 16 b_T_turnNow_16_3 = true := by decide +kernel
theorem d_T_turnNow_2 : decode m_T_turnNow.2.1 2 = .ok (.invokevirtual 50, 3) := by decide +kernel
theorem d_T_turnNow_5 : decode m_T_turnNow.2.1 5 = .ok (.ifCond .eq (20), 3) := by decide +kernel
theorem d_T_turnNow_26 : decode m_T_turnNow.2.1 26 = .ok (.ireturn, 1) := by decide +kernel
theorem d_T_turnNow_10 : decode m_T_turnNow.2.1 10 = .ok (.invokevirtual 50, 3) := by decide +kernel
theorem d_T_turnNow_13 : decode m_T_turnNow.2.1 13 = .ok (.ifCond .eq (12), 3) := by decide +kernel
theorem d_T_turnNow_19 : decode m_T_turnNow.2.1 19 = .ok (.invokevirtual 71, 3) := by decide +kernel
theorem d_T_turnNow_22 : decode m_T_turnNow.2.1 22 = .ok (.goto (4), 3) := by decide +kernel
def f_T_turnNow  (S : hs) (x1 : Int32) (x2 : Int32) : Option (Int32 × hs) := bd (f_T_hasCourse  S x1) fun r1 S2 => (if r1 = 0 then some ((-1 : Int32), S2) else bd (f_T_hasCourse  S2 x2) fun r5 S6 => (if r5 = 0 then some ((-1 : Int32), S6) else bd (f_T_kindOf  S6 x1 x2) fun r9 S10 => some (r9, S10)))
theorem c_T_turnNow (w : Wd) (d : Nat) (c : cx)   (S : hs) (x1 : Int32) (x2 : Int32)  {z : Int32 × hs} (H : f_T_turnNow S x1 x2 = some z) : Cl w (d + 4) m_T_turnNow [.ref 34, .int x1, .int x2] (mk c S) (some (.int z.1)) (mk c z.2) := by
  refine Cl.of (Nat.le_refl _) (Nat.le_refl _) (by decide +kernel) (Nat.le_of_ble_eq_true rfl) ?_
  unfold f_T_turnNow at H
  generalize hN (mk c S) = n0
  generalize hZ (mk c S) = z0
  show J w (d + 4) m_T_turnNow (n0, z0, some (.int z.1), mk c z.2) 0 [some (.ref 34), some (.int x1), some (.int x2)] [] (mk c S)
  refine J.run b_T_turnNow_0_2 k_T_turnNow_0_2 rfl (show J w (d + 4) m_T_turnNow (n0, z0, some (.int z.1), mk c z.2) 2 [some (.ref 34), some (.int x1), some (.int x2)] [.int x1, .ref 34] (mk c S) from ?_)
  obtain ⟨r1, S2, h3, H⟩ := bd_e H
  refine J.callV (y := m_T_hasCourse) (av := [.int x1]) (rest := []) (q := 34) l_T_50 d_T_turnNow_2 (isC_st rfl rfl) (c_T_hasCourse w (d + 0) c  S x1 h3) rfl (Nat.le_of_ble_eq_true rfl) ⟨Nat.le_refl _, Nat.le_refl _⟩ (show J w (d + 4) m_T_turnNow (n0, z0, some (.int z.1), mk c z.2) 5 [some (.ref 34), some (.int x1), some (.int x2)] [.int r1] (mk c S2) from ?_)
  refine J.zeq (tgt := 25) d_T_turnNow_5 rfl (fun q4 => ?_) (fun q4 => ?_)
  · have H := ite_t H q4
    refine J.run b_T_turnNow_25_1 k_T_turnNow_25_1 rfl (show J w (d + 4) m_T_turnNow (n0, z0, some (.int z.1), mk c z.2) 26 [some (.ref 34), some (.int x1), some (.int x2)] [.int (-1 : Int32)] (mk c S2) from ?_)
    obtain rfl := some_e H
    exact J.iret d_T_turnNow_26 rfl rfl
  · have H := ite_f H q4
    refine J.run b_T_turnNow_8_2 k_T_turnNow_8_2 rfl (show J w (d + 4) m_T_turnNow (n0, z0, some (.int z.1), mk c z.2) 10 [some (.ref 34), some (.int x1), some (.int x2)] [.int x2, .ref 34] (mk c S2) from ?_)
    obtain ⟨r5, S6, h7, H⟩ := bd_e H
    refine J.callV (y := m_T_hasCourse) (av := [.int x2]) (rest := []) (q := 34) l_T_50 d_T_turnNow_10 (isC_st rfl rfl) (c_T_hasCourse w (d + 0) c  S2 x2 h7) rfl (Nat.le_of_ble_eq_true rfl) ⟨Nat.le_refl _, Nat.le_refl _⟩ (show J w (d + 4) m_T_turnNow (n0, z0, some (.int z.1), mk c z.2) 13 [some (.ref 34), some (.int x1), some (.int x2)] [.int r5] (mk c S6) from ?_)
    refine J.zeq (tgt := 25) d_T_turnNow_13 rfl (fun q8 => ?_) (fun q8 => ?_)
    · have H := ite_t H q8
      refine J.run b_T_turnNow_25_1 k_T_turnNow_25_1 rfl (show J w (d + 4) m_T_turnNow (n0, z0, some (.int z.1), mk c z.2) 26 [some (.ref 34), some (.int x1), some (.int x2)] [.int (-1 : Int32)] (mk c S6) from ?_)
      obtain rfl := some_e H
      exact J.iret d_T_turnNow_26 rfl rfl
    · have H := ite_f H q8
      refine J.run b_T_turnNow_16_3 k_T_turnNow_16_3 rfl (show J w (d + 4) m_T_turnNow (n0, z0, some (.int z.1), mk c z.2) 19 [some (.ref 34), some (.int x1), some (.int x2)] [.int x2, .int x1, .ref 34] (mk c S6) from ?_)
      obtain ⟨r9, S10, h11, H⟩ := bd_e H
      refine J.callV (y := m_T_kindOf) (av := [.int x1, .int x2]) (rest := []) (q := 34) l_T_71 d_T_turnNow_19 (isC_st rfl rfl) (c_T_kindOf w (d + 0) c  S6 x1 x2 h11) rfl (Nat.le_of_ble_eq_true rfl) ⟨Nat.le_refl _, Nat.le_refl _⟩ (show J w (d + 4) m_T_turnNow (n0, z0, some (.int z.1), mk c z.2) 22 [some (.ref 34), some (.int x1), some (.int x2)] [.int r9] (mk c S10) from ?_)
      refine J.goto (tgt := 26) d_T_turnNow_22 rfl ?_
      obtain rfl := some_e H
      exact J.iret d_T_turnNow_26 rfl rfl
def b_T_wideOf_0_6 : List Ins := [(.iload_n 1, 0, 0, 0), (.iconst (1), 0, 0, 0), (.ishr, 0, 0, 0), (.istore_n 2, 0, 0, 0), (.aload_n 0, 0, 0, 0), (.iload_n 2, 0, 0, 0)]
theorem k_T_wideOf_0_6 : bok m_T_wideOf 0 b_T_wideOf_0_6 = true := by decide +kernel
def b_T_wideOf_23_1 : List Ins := [(.iconst (0), 0, 0, 0)]
theorem k_T_wideOf_23_1 : bok m_T_wideOf 23 b_T_wideOf_23_1 = true := by decide +kernel
def b_T_wideOf_12_6 : List Ins := [(.aload_n 0, 0, 0, 0), (.getfield 16, 1, 1, 2), (.iload_n 2, 0, 0, 0), (.aaload, 0, 0, 0), (.iconst (2), 0, 0, 0), (.iaload, 0, 0, 0)]
theorem k_T_wideOf_12_6 : bok m_T_wideOf 12 b_T_wideOf_12_6 = true := by decide +kernel
theorem d_T_wideOf_6 : decode m_T_wideOf.2.1 6 = .ok (.invokevirtual 43, 3) := by decide +kernel
theorem d_T_wideOf_9 : decode m_T_wideOf.2.1 9 = .ok (.ifCond .eq (14), 3) := by decide +kernel
theorem d_T_wideOf_24 : decode m_T_wideOf.2.1 24 = .ok (.ireturn, 1) := by decide +kernel
theorem d_T_wideOf_20 : decode m_T_wideOf.2.1 20 = .ok (.goto (4), 3) := by decide +kernel
def f_T_wideOf  (S : hs) (x1 : Int32) : Option (Int32 × hs) := bd (f_T_hasStreet  S (x1 >>> ((1 : Int32) &&& 31))) fun r1 S2 => (if r1 = 0 then some ((0 : Int32), S2) else ck (inb (x1 >>> ((1 : Int32) &&& 31)) 20) (some ((gI S2 (49 + ((x1 >>> ((1 : Int32) &&& 31))).toNatClampNeg) 2), S2)))
theorem c_T_wideOf (w : Wd) (d : Nat) (c : cx)   (S : hs) (x1 : Int32)  {z : Int32 × hs} (H : f_T_wideOf S x1 = some z) : Cl w (d + 2) m_T_wideOf [.ref 34, .int x1] (mk c S) (some (.int z.1)) (mk c z.2) := by
  refine Cl.of (Nat.le_refl _) (Nat.le_refl _) (by decide +kernel) (Nat.le_of_ble_eq_true rfl) ?_
  unfold f_T_wideOf at H
  generalize hN (mk c S) = n0
  generalize hZ (mk c S) = z0
  show J w (d + 2) m_T_wideOf (n0, z0, some (.int z.1), mk c z.2) 0 [some (.ref 34), some (.int x1), none] [] (mk c S)
  refine J.run b_T_wideOf_0_6 k_T_wideOf_0_6 rfl (show J w (d + 2) m_T_wideOf (n0, z0, some (.int z.1), mk c z.2) 6 [some (.ref 34), some (.int x1), some (.int (x1 >>> ((1 : Int32) &&& 31)))] [.int (x1 >>> ((1 : Int32) &&& 31)), .ref 34] (mk c S) from ?_)
  obtain ⟨r1, S2, h3, H⟩ := bd_e H
  refine J.callV (y := m_T_hasStreet) (av := [.int (x1 >>> ((1 : Int32) &&& 31))]) (rest := []) (q := 34) l_T_43 d_T_wideOf_6 (isC_st rfl rfl) (c_T_hasStreet w (d + 0) c  S (x1 >>> ((1 : Int32) &&& 31)) h3) rfl (Nat.le_of_ble_eq_true rfl) ⟨Nat.le_refl _, Nat.le_refl _⟩ (show J w (d + 2) m_T_wideOf (n0, z0, some (.int z.1), mk c z.2) 9 [some (.ref 34), some (.int x1), some (.int (x1 >>> ((1 : Int32) &&& 31)))] [.int r1] (mk c S2) from ?_)
  refine J.zeq (tgt := 23) d_T_wideOf_9 rfl (fun q4 => ?_) (fun q4 => ?_)
  · have H := ite_t H q4
    refine J.run b_T_wideOf_23_1 k_T_wideOf_23_1 rfl (show J w (d + 2) m_T_wideOf (n0, z0, some (.int z.1), mk c z.2) 24 [some (.ref 34), some (.int x1), some (.int (x1 >>> ((1 : Int32) &&& 31)))] [.int (0 : Int32)] (mk c S2) from ?_)
    obtain rfl := some_e H
    exact J.iret d_T_wideOf_24 rfl rfl
  · have H := ite_f H q4
    obtain ⟨g5, H⟩ := ck_e H
    refine J.run b_T_wideOf_12_6 k_T_wideOf_12_6 rfl (And.intro (okO_st (S := S2) rfl) (And.intro (okQ_st (S := S2) (k := 23) (n := 20) rfl rfl g5) (And.intro (okA_row (S := S2) (b := 49) (cnt := 20) (n := 8) rfl (inb_lt g5) rfl) (show J w (d + 2) m_T_wideOf (n0, z0, some (.int z.1), mk c z.2) 20 [some (.ref 34), some (.int x1), some (.int (x1 >>> ((1 : Int32) &&& 31)))] [.int (gI S2 (49 + ((x1 >>> ((1 : Int32) &&& 31))).toNatClampNeg) 2)] (mk c S2) from ?_))))
    refine J.goto (tgt := 24) d_T_wideOf_20 rfl ?_
    obtain rfl := some_e H
    exact J.iret d_T_wideOf_24 rfl rfl
def b_T_longOf_0_6 : List Ins := [(.iload_n 1, 0, 0, 0), (.iconst (1), 0, 0, 0), (.ishr, 0, 0, 0), (.istore_n 2, 0, 0, 0), (.aload_n 0, 0, 0, 0), (.iload_n 2, 0, 0, 0)]
theorem k_T_longOf_0_6 : bok m_T_longOf 0 b_T_longOf_0_6 = true := by decide +kernel
def b_T_longOf_23_1 : List Ins := [(.iconst (0), 0, 0, 0)]
theorem k_T_longOf_23_1 : bok m_T_longOf 23 b_T_longOf_23_1 = true := by decide +kernel
def b_T_longOf_12_6 : List Ins := [(.aload_n 0, 0, 0, 0), (.getfield 16, 1, 1, 2), (.iload_n 2, 0, 0, 0), (.aaload, 0, 0, 0), (.iconst (4), 0, 0, 0), (.iaload, 0, 0, 0)]
theorem k_T_longOf_12_6 : bok m_T_longOf 12 b_T_longOf_12_6 = true := by decide +kernel
theorem d_T_longOf_6 : decode m_T_longOf.2.1 6 = .ok (.invokevirtual 43, 3) := by decide +kernel
theorem d_T_longOf_9 : decode m_T_longOf.2.1 9 = .ok (.ifCond .eq (14), 3) := by decide +kernel
theorem d_T_longOf_24 : decode m_T_longOf.2.1 24 = .ok (.ireturn, 1) := by decide +kernel
theorem d_T_longOf_20 : decode m_T_longOf.2.1 20 = .ok (.goto (4), 3) := by decide +kernel
def f_T_longOf  (S : hs) (x1 : Int32) : Option (Int32 × hs) := bd (f_T_hasStreet  S (x1 >>> ((1 : Int32) &&& 31))) fun r1 S2 => (if r1 = 0 then some ((0 : Int32), S2) else ck (inb (x1 >>> ((1 : Int32) &&& 31)) 20) (some ((gI S2 (49 + ((x1 >>> ((1 : Int32) &&& 31))).toNatClampNeg) 4), S2)))
theorem c_T_longOf (w : Wd) (d : Nat) (c : cx)   (S : hs) (x1 : Int32)  {z : Int32 × hs} (H : f_T_longOf S x1 = some z) : Cl w (d + 2) m_T_longOf [.ref 34, .int x1] (mk c S) (some (.int z.1)) (mk c z.2) := by
  refine Cl.of (Nat.le_refl _) (Nat.le_refl _) (by decide +kernel) (Nat.le_of_ble_eq_true rfl) ?_
  unfold f_T_longOf at H
  generalize hN (mk c S) = n0
  generalize hZ (mk c S) = z0
  show J w (d + 2) m_T_longOf (n0, z0, some (.int z.1), mk c z.2) 0 [some (.ref 34), some (.int x1), none] [] (mk c S)
  refine J.run b_T_longOf_0_6 k_T_longOf_0_6 rfl (show J w (d + 2) m_T_longOf (n0, z0, some (.int z.1), mk c z.2) 6 [some (.ref 34), some (.int x1), some (.int (x1 >>> ((1 : Int32) &&& 31)))] [.int (x1 >>> ((1 : Int32) &&& 31)), .ref 34] (mk c S) from ?_)
  obtain ⟨r1, S2, h3, H⟩ := bd_e H
  refine J.callV (y := m_T_hasStreet) (av := [.int (x1 >>> ((1 : Int32) &&& 31))]) (rest := []) (q := 34) l_T_43 d_T_longOf_6 (isC_st rfl rfl) (c_T_hasStreet w (d + 0) c  S (x1 >>> ((1 : Int32) &&& 31)) h3) rfl (Nat.le_of_ble_eq_true rfl) ⟨Nat.le_refl _, Nat.le_refl _⟩ (show J w (d + 2) m_T_longOf (n0, z0, some (.int z.1), mk c z.2) 9 [some (.ref 34), some (.int x1), some (.int (x1 >>> ((1 : Int32) &&& 31)))] [.int r1] (mk c S2) from ?_)
  refine J.zeq (tgt := 23) d_T_longOf_9 rfl (fun q4 => ?_) (fun q4 => ?_)
  · have H := ite_t H q4
    refine J.run b_T_longOf_23_1 k_T_longOf_23_1 rfl (show J w (d + 2) m_T_longOf (n0, z0, some (.int z.1), mk c z.2) 24 [some (.ref 34), some (.int x1), some (.int (x1 >>> ((1 : Int32) &&& 31)))] [.int (0 : Int32)] (mk c S2) from ?_)
    obtain rfl := some_e H
    exact J.iret d_T_longOf_24 rfl rfl
  · have H := ite_f H q4
    obtain ⟨g5, H⟩ := ck_e H
    refine J.run b_T_longOf_12_6 k_T_longOf_12_6 rfl (And.intro (okO_st (S := S2) rfl) (And.intro (okQ_st (S := S2) (k := 23) (n := 20) rfl rfl g5) (And.intro (okA_row (S := S2) (b := 49) (cnt := 20) (n := 8) rfl (inb_lt g5) rfl) (show J w (d + 2) m_T_longOf (n0, z0, some (.int z.1), mk c z.2) 20 [some (.ref 34), some (.int x1), some (.int (x1 >>> ((1 : Int32) &&& 31)))] [.int (gI S2 (49 + ((x1 >>> ((1 : Int32) &&& 31))).toNatClampNeg) 4)] (mk c S2) from ?_))))
    refine J.goto (tgt := 24) d_T_longOf_20 rfl ?_
    obtain rfl := some_e H
    exact J.iret d_T_longOf_24 rfl rfl
def b_X_isUnder_0_1 : List Ins := [(.iload_n 1, 0, 0, 0)]
theorem k_X_isUnder_0_1 : bok m_X_isUnder 0 b_X_isUnder_0_1 = true := by decide +kernel
def b_X_isUnder_29_1 : List Ins := [(.iconst (1), 0, 0, 0)]
theorem k_X_isUnder_29_1 : bok m_X_isUnder 29 b_X_isUnder_29_1 = true := by decide +kernel
def b_X_isUnder_4_2 : List Ins := [(.iload_n 1, 0, 0, 0), (.iload_n 0, 0, 0, 0)]
theorem k_X_isUnder_4_2 : bok m_X_isUnder 4 b_X_isUnder_4_2 = true := by decide +kernel
def b_X_isUnder_9_2 : List Ins := [(.iload_n 1, 0, 0, 0), (.iconst (2), 0, 0, 0)]
theorem k_X_isUnder_9_2 : bok m_X_isUnder 9 b_X_isUnder_9_2 = true := by decide +kernel
def b_X_isUnder_19_2 : List Ins := [(.iload_n 1, 0, 0, 0), (.iconst (4), 0, 0, 0)]
theorem k_X_isUnder_19_2 : bok m_X_isUnder 19 b_X_isUnder_19_2 = true := by decide +kernel
def b_X_isUnder_33_1 : List Ins := [(.iconst (0), 0, 0, 0)]
theorem k_X_isUnder_33_1 : bok m_X_isUnder 33 b_X_isUnder_33_1 = true := by decide +kernel
def b_X_isUnder_24_2 : List Ins := [(.iload_n 0, 0, 0, 0), (.iconst (5), 0, 0, 0)]
theorem k_X_isUnder_24_2 : bok m_X_isUnder 24 b_X_isUnder_24_2 = true := by decide +kernel
def b_X_isUnder_14_2 : List Ins := [(.iload_n 0, 0, 0, 0), (.iconst (3), 0, 0, 0)]
theorem k_X_isUnder_14_2 : bok m_X_isUnder 14 b_X_isUnder_14_2 = true := by decide +kernel
theorem d_X_isUnder_1 : decode m_X_isUnder.2.1 1 = .ok (.ifCond .eq (28), 3) := by decide +kernel
theorem d_X_isUnder_30 : decode m_X_isUnder.2.1 30 = .ok (.goto (4), 3) := by decide +kernel
theorem d_X_isUnder_34 : decode m_X_isUnder.2.1 34 = .ok (.ireturn, 1) := by decide +kernel
theorem d_X_isUnder_6 : decode m_X_isUnder.2.1 6 = .ok (.if_icmp .eq (23), 3) := by decide +kernel
theorem d_X_isUnder_11 : decode m_X_isUnder.2.1 11 = .ok (.if_icmp .ne (8), 3) := by decide +kernel
theorem d_X_isUnder_21 : decode m_X_isUnder.2.1 21 = .ok (.if_icmp .ne (12), 3) := by decide +kernel
theorem d_X_isUnder_26 : decode m_X_isUnder.2.1 26 = .ok (.if_icmp .ne (7), 3) := by decide +kernel
theorem d_X_isUnder_16 : decode m_X_isUnder.2.1 16 = .ok (.if_icmp .eq (13), 3) := by decide +kernel
def f_X_isUnder  (S : hs) (x0 : Int32) (x1 : Int32) : Option (Int32 × hs) := (if x1 = 0 then some ((1 : Int32), S) else (if x1 = x0 then some ((1 : Int32), S) else (if x1 = (2 : Int32) then (if x0 = (3 : Int32) then some ((1 : Int32), S) else (if x1 = (4 : Int32) then (if x0 = (5 : Int32) then some ((1 : Int32), S) else some ((0 : Int32), S)) else some ((0 : Int32), S))) else (if x1 = (4 : Int32) then (if x0 = (5 : Int32) then some ((1 : Int32), S) else some ((0 : Int32), S)) else some ((0 : Int32), S)))))
theorem c_X_isUnder (w : Wd) (d : Nat) (c : cx)   (S : hs) (x0 : Int32) (x1 : Int32)  {z : Int32 × hs} (H : f_X_isUnder S x0 x1 = some z) : Cl w (d + 1) m_X_isUnder [.int x0, .int x1] (mk c S) (some (.int z.1)) (mk c z.2) := by
  refine Cl.of (Nat.le_refl _) (Nat.le_refl _) (by decide +kernel) (Nat.le_of_ble_eq_true rfl) ?_
  unfold f_X_isUnder at H
  generalize hN (mk c S) = n0
  generalize hZ (mk c S) = z0
  show J w (d + 1) m_X_isUnder (n0, z0, some (.int z.1), mk c z.2) 0 [some (.int x0), some (.int x1)] [] (mk c S)
  refine J.run b_X_isUnder_0_1 k_X_isUnder_0_1 rfl (show J w (d + 1) m_X_isUnder (n0, z0, some (.int z.1), mk c z.2) 1 [some (.int x0), some (.int x1)] [.int x1] (mk c S) from ?_)
  refine J.zeq (tgt := 29) d_X_isUnder_1 rfl (fun q1 => ?_) (fun q1 => ?_)
  · have H := ite_t H q1
    refine J.run b_X_isUnder_29_1 k_X_isUnder_29_1 rfl (show J w (d + 1) m_X_isUnder (n0, z0, some (.int z.1), mk c z.2) 30 [some (.int x0), some (.int x1)] [.int (1 : Int32)] (mk c S) from ?_)
    refine J.goto (tgt := 34) d_X_isUnder_30 rfl ?_
    obtain rfl := some_e H
    exact J.nret d_X_isUnder_34 rfl rfl rfl
  · have H := ite_f H q1
    refine J.run b_X_isUnder_4_2 k_X_isUnder_4_2 rfl (show J w (d + 1) m_X_isUnder (n0, z0, some (.int z.1), mk c z.2) 6 [some (.int x0), some (.int x1)] [.int x0, .int x1] (mk c S) from ?_)
    refine J.ceq (tgt := 29) d_X_isUnder_6 rfl (fun q2 => ?_) (fun q2 => ?_)
    · have H := ite_t H q2
      refine J.run b_X_isUnder_29_1 k_X_isUnder_29_1 rfl (show J w (d + 1) m_X_isUnder (n0, z0, some (.int z.1), mk c z.2) 30 [some (.int x0), some (.int x1)] [.int (1 : Int32)] (mk c S) from ?_)
      refine J.goto (tgt := 34) d_X_isUnder_30 rfl ?_
      obtain rfl := some_e H
      exact J.nret d_X_isUnder_34 rfl rfl rfl
    · have H := ite_f H q2
      refine J.run b_X_isUnder_9_2 k_X_isUnder_9_2 rfl (show J w (d + 1) m_X_isUnder (n0, z0, some (.int z.1), mk c z.2) 11 [some (.int x0), some (.int x1)] [.int (2 : Int32), .int x1] (mk c S) from ?_)
      refine J.cne (tgt := 19) d_X_isUnder_11 rfl (fun q3 => ?_) (fun q3 => ?_)
      · have H := ite_f H q3
        refine J.run b_X_isUnder_19_2 k_X_isUnder_19_2 rfl (show J w (d + 1) m_X_isUnder (n0, z0, some (.int z.1), mk c z.2) 21 [some (.int x0), some (.int x1)] [.int (4 : Int32), .int x1] (mk c S) from ?_)
        refine J.cne (tgt := 33) d_X_isUnder_21 rfl (fun q4 => ?_) (fun q4 => ?_)
        · have H := ite_f H q4
          refine J.run b_X_isUnder_33_1 k_X_isUnder_33_1 rfl (show J w (d + 1) m_X_isUnder (n0, z0, some (.int z.1), mk c z.2) 34 [some (.int x0), some (.int x1)] [.int (0 : Int32)] (mk c S) from ?_)
          obtain rfl := some_e H
          exact J.nret d_X_isUnder_34 rfl rfl rfl
        · have H := ite_t H q4
          refine J.run b_X_isUnder_24_2 k_X_isUnder_24_2 rfl (show J w (d + 1) m_X_isUnder (n0, z0, some (.int z.1), mk c z.2) 26 [some (.int x0), some (.int x1)] [.int (5 : Int32), .int x0] (mk c S) from ?_)
          refine J.cne (tgt := 33) d_X_isUnder_26 rfl (fun q5 => ?_) (fun q5 => ?_)
          · have H := ite_f H q5
            refine J.run b_X_isUnder_33_1 k_X_isUnder_33_1 rfl (show J w (d + 1) m_X_isUnder (n0, z0, some (.int z.1), mk c z.2) 34 [some (.int x0), some (.int x1)] [.int (0 : Int32)] (mk c S) from ?_)
            obtain rfl := some_e H
            exact J.nret d_X_isUnder_34 rfl rfl rfl
          · have H := ite_t H q5
            refine J.run b_X_isUnder_29_1 k_X_isUnder_29_1 rfl (show J w (d + 1) m_X_isUnder (n0, z0, some (.int z.1), mk c z.2) 30 [some (.int x0), some (.int x1)] [.int (1 : Int32)] (mk c S) from ?_)
            refine J.goto (tgt := 34) d_X_isUnder_30 rfl ?_
            obtain rfl := some_e H
            exact J.nret d_X_isUnder_34 rfl rfl rfl
      · have H := ite_t H q3
        refine J.run b_X_isUnder_14_2 k_X_isUnder_14_2 rfl (show J w (d + 1) m_X_isUnder (n0, z0, some (.int z.1), mk c z.2) 16 [some (.int x0), some (.int x1)] [.int (3 : Int32), .int x0] (mk c S) from ?_)
        refine J.ceq (tgt := 29) d_X_isUnder_16 rfl (fun q6 => ?_) (fun q6 => ?_)
        · have H := ite_t H q6
          refine J.run b_X_isUnder_29_1 k_X_isUnder_29_1 rfl (show J w (d + 1) m_X_isUnder (n0, z0, some (.int z.1), mk c z.2) 30 [some (.int x0), some (.int x1)] [.int (1 : Int32)] (mk c S) from ?_)
          refine J.goto (tgt := 34) d_X_isUnder_30 rfl ?_
          obtain rfl := some_e H
          exact J.nret d_X_isUnder_34 rfl rfl rfl
        · have H := ite_f H q6
          refine J.run b_X_isUnder_19_2 k_X_isUnder_19_2 rfl (show J w (d + 1) m_X_isUnder (n0, z0, some (.int z.1), mk c z.2) 21 [some (.int x0), some (.int x1)] [.int (4 : Int32), .int x1] (mk c S) from ?_)
          refine J.cne (tgt := 33) d_X_isUnder_21 rfl (fun q7 => ?_) (fun q7 => ?_)
          · have H := ite_f H q7
            refine J.run b_X_isUnder_33_1 k_X_isUnder_33_1 rfl (show J w (d + 1) m_X_isUnder (n0, z0, some (.int z.1), mk c z.2) 34 [some (.int x0), some (.int x1)] [.int (0 : Int32)] (mk c S) from ?_)
            obtain rfl := some_e H
            exact J.nret d_X_isUnder_34 rfl rfl rfl
          · have H := ite_t H q7
            refine J.run b_X_isUnder_24_2 k_X_isUnder_24_2 rfl (show J w (d + 1) m_X_isUnder (n0, z0, some (.int z.1), mk c z.2) 26 [some (.int x0), some (.int x1)] [.int (5 : Int32), .int x0] (mk c S) from ?_)
            refine J.cne (tgt := 33) d_X_isUnder_26 rfl (fun q8 => ?_) (fun q8 => ?_)
            · have H := ite_f H q8
              refine J.run b_X_isUnder_33_1 k_X_isUnder_33_1 rfl (show J w (d + 1) m_X_isUnder (n0, z0, some (.int z.1), mk c z.2) 34 [some (.int x0), some (.int x1)] [.int (0 : Int32)] (mk c S) from ?_)
              obtain rfl := some_e H
              exact J.nret d_X_isUnder_34 rfl rfl rfl
            · have H := ite_t H q8
              refine J.run b_X_isUnder_29_1 k_X_isUnder_29_1 rfl (show J w (d + 1) m_X_isUnder (n0, z0, some (.int z.1), mk c z.2) 30 [some (.int x0), some (.int x1)] [.int (1 : Int32)] (mk c S) from ?_)
              refine J.goto (tgt := 34) d_X_isUnder_30 rfl ?_
              obtain rfl := some_e H
              exact J.nret d_X_isUnder_34 rfl rfl rfl
def b_A_valueOf_0_5 : List Ins := [(.iload_n 0, 0, 0, 0), (.sipush (10000), 0, 0, 0), (.isub, 0, 0, 0), (.istore_n 2, 0, 0, 0), (.iload_n 2, 0, 0, 0)]
theorem k_A_valueOf_0_5 : bok m_A_valueOf 0 b_A_valueOf_0_5 = true := by decide +kernel
def b_A_valueOf_28_1 : List Ins := [(.iload_n 0, 0, 0, 0)]
theorem k_A_valueOf_28_1 : bok m_A_valueOf 28 b_A_valueOf_28_1 = true := by decide +kernel
def b_A_valueOf_10_2 : List Ins := [(.iload_n 2, 0, 0, 0), (.bipush (6), 0, 0, 0)]
theorem k_A_valueOf_10_2 : bok m_A_valueOf 10 b_A_valueOf_10_2 = true := by decide +kernel
def b_A_valueOf_16_3 : List Ins := [(.iload_n 2, 0, 0, 0), (.aload_n 1, 0, 0, 0), (.arraylength, 0, 0, 0)]
theorem k_A_valueOf_16_3 : bok m_A_valueOf 16 b_A_valueOf_16_3 = true := by decide +kernel
def b_A_valueOf_22_3 : List Ins := [(.aload_n 1, 0, 0, 0), (.iload_n 2, 0, 0, 0), (.iaload, 0, 0, 0)]
theorem k_A_valueOf_22_3 : bok m_A_valueOf 22 b_A_valueOf_22_3 = true := by decide +kernel
theorem d_A_valueOf_7 : decode m_A_valueOf.2.1 7 = .ok (.ifCond .lt (21), 3) := by decide +kernel
theorem d_A_valueOf_29 : decode m_A_valueOf.2.1 29 = .ok (.ireturn, 1) := by decide +kernel
theorem d_A_valueOf_13 : decode m_A_valueOf.2.1 13 = .ok (.if_icmp .ge (15), 3) := by decide +kernel
theorem d_A_valueOf_19 : decode m_A_valueOf.2.1 19 = .ok (.if_icmp .ge (9), 3) := by decide +kernel
theorem d_A_valueOf_25 : decode m_A_valueOf.2.1 25 = .ok (.goto (4), 3) := by decide +kernel
def f_A_valueOf_80  (S : hs) (x0 : Int32) : Option (Int32 × hs) := (if (x0 - (10000 : Int32)) < 0 then some (x0, S) else (if (6 : Int32) ≤ (x0 - (10000 : Int32)) then some (x0, S) else (if (6 : Int32) ≤ (x0 - (10000 : Int32)) then some (x0, S) else ck (inb (x0 - (10000 : Int32)) 6) (some ((gI S 80 ((x0 - (10000 : Int32))).toNatClampNeg), S)))))
theorem c_A_valueOf_80 (w : Wd) (d : Nat) (c : cx)   (S : hs) (x0 : Int32)  {z : Int32 × hs} (H : f_A_valueOf_80 S x0 = some z) : Cl w (d + 1) m_A_valueOf [.int x0, .ref 80] (mk c S) (some (.int z.1)) (mk c z.2) := by
  refine Cl.of (Nat.le_refl _) (Nat.le_refl _) (by decide +kernel) (Nat.le_of_ble_eq_true rfl) ?_
  unfold f_A_valueOf_80 at H
  generalize hN (mk c S) = n0
  generalize hZ (mk c S) = z0
  show J w (d + 1) m_A_valueOf (n0, z0, some (.int z.1), mk c z.2) 0 [some (.int x0), some (.ref 80), none] [] (mk c S)
  refine J.run b_A_valueOf_0_5 k_A_valueOf_0_5 rfl (show J w (d + 1) m_A_valueOf (n0, z0, some (.int z.1), mk c z.2) 7 [some (.int x0), some (.ref 80), some (.int (x0 - (10000 : Int32)))] [.int (x0 - (10000 : Int32))] (mk c S) from ?_)
  refine J.zlt (tgt := 28) d_A_valueOf_7 rfl (fun q1 => ?_) (fun q1 => ?_)
  · have H := ite_t H q1
    refine J.run b_A_valueOf_28_1 k_A_valueOf_28_1 rfl (show J w (d + 1) m_A_valueOf (n0, z0, some (.int z.1), mk c z.2) 29 [some (.int x0), some (.ref 80), some (.int (x0 - (10000 : Int32)))] [.int x0] (mk c S) from ?_)
    obtain rfl := some_e H
    exact J.iret d_A_valueOf_29 rfl rfl
  · have H := ite_f H q1
    refine J.run b_A_valueOf_10_2 k_A_valueOf_10_2 rfl (show J w (d + 1) m_A_valueOf (n0, z0, some (.int z.1), mk c z.2) 13 [some (.int x0), some (.ref 80), some (.int (x0 - (10000 : Int32)))] [.int (6 : Int32), .int (x0 - (10000 : Int32))] (mk c S) from ?_)
    refine J.cge (tgt := 28) d_A_valueOf_13 rfl (fun q2 => ?_) (fun q2 => ?_)
    · have H := ite_t H q2
      refine J.run b_A_valueOf_28_1 k_A_valueOf_28_1 rfl (show J w (d + 1) m_A_valueOf (n0, z0, some (.int z.1), mk c z.2) 29 [some (.int x0), some (.ref 80), some (.int (x0 - (10000 : Int32)))] [.int x0] (mk c S) from ?_)
      obtain rfl := some_e H
      exact J.iret d_A_valueOf_29 rfl rfl
    · have H := ite_f H q2
      refine J.run b_A_valueOf_16_3 k_A_valueOf_16_3 rfl (And.intro (okN_st (S := S) (k := 20) (n := 6) rfl rfl) (show J w (d + 1) m_A_valueOf (n0, z0, some (.int z.1), mk c z.2) 19 [some (.int x0), some (.ref 80), some (.int (x0 - (10000 : Int32)))] [.int (6 : Int32), .int (x0 - (10000 : Int32))] (mk c S) from ?_))
      refine J.cge (tgt := 28) d_A_valueOf_19 rfl (fun q3 => ?_) (fun q3 => ?_)
      · have H := ite_t H q3
        refine J.run b_A_valueOf_28_1 k_A_valueOf_28_1 rfl (show J w (d + 1) m_A_valueOf (n0, z0, some (.int z.1), mk c z.2) 29 [some (.int x0), some (.ref 80), some (.int (x0 - (10000 : Int32)))] [.int x0] (mk c S) from ?_)
        obtain rfl := some_e H
        exact J.iret d_A_valueOf_29 rfl rfl
      · have H := ite_f H q3
        obtain ⟨g4, H⟩ := ck_e H
        refine J.run b_A_valueOf_22_3 k_A_valueOf_22_3 rfl (And.intro (okA_st (S := S) (n := 6) rfl g4) (show J w (d + 1) m_A_valueOf (n0, z0, some (.int z.1), mk c z.2) 25 [some (.int x0), some (.ref 80), some (.int (x0 - (10000 : Int32)))] [.int (gI S 80 ((x0 - (10000 : Int32))).toNatClampNeg)] (mk c S) from ?_))
        refine J.goto (tgt := 29) d_A_valueOf_25 rfl ?_
        obtain rfl := some_e H
        exact J.iret d_A_valueOf_29 rfl rfl
def b_A_compares_0_5 : List Ins := [(.aload_n 0, 0, 0, 0), (.getfield 21, 2, 3, 2), (.iload_n 1, 0, 0, 0), (.iaload, 0, 0, 0), (.aload_n 2, 0, 0, 0)]
theorem k_A_compares_0_5 : bok m_A_compares 0 b_A_compares_0_5 = true := by decide +kernel
def b_A_compares_10_6 : List Ins := [(.istore_n 3, 0, 0, 0), (.aload_n 0, 0, 0, 0), (.getfield 24, 2, 4, 2), (.iload_n 1, 0, 0, 0), (.iaload, 0, 0, 0), (.aload_n 2, 0, 0, 0)]
theorem k_A_compares_10_6 : bok m_A_compares 10 b_A_compares_10_6 = true := by decide +kernel
def b_A_compares_21_5 : List Ins := [(.istore 4, 0, 0, 0), (.aload_n 0, 0, 0, 0), (.getfield 18, 2, 2, 2), (.iload_n 1, 0, 0, 0), (.iaload, 0, 0, 0)]
theorem k_A_compares_21_5 : bok m_A_compares 21 b_A_compares_21_5 = true := by decide +kernel
def b_A_compares_56_2 : List Ins := [(.iload_n 3, 0, 0, 0), (.iload 4, 0, 0, 0)]
theorem k_A_compares_56_2 : bok m_A_compares 56 b_A_compares_56_2 = true := by decide +kernel
def b_A_compares_66_1 : List Ins := [(.iconst (0), 0, 0, 0)]
theorem k_A_compares_66_1 : bok m_A_compares 66 b_A_compares_66_1 = true := by decide +kernel
def b_A_compares_62_1 : List Ins := [(.iconst (1), 0, 0, 0)]
theorem k_A_compares_62_1 : bok m_A_compares 62 b_A_compares_62_1 = true := by decide +kernel
def b_A_compares_68_2 : List Ins := [(.iload_n 3, 0, 0, 0), (.iload 4, 0, 0, 0)]
theorem k_A_compares_68_2 : bok m_A_compares 68 b_A_compares_68_2 = true := by decide +kernel
def b_A_compares_78_1 : List Ins := [(.iconst (0), 0, 0, 0)]
theorem k_A_compares_78_1 : bok m_A_compares 78 b_A_compares_78_1 = true := by decide +kernel
def b_A_compares_74_1 : List Ins := [(.iconst (1), 0, 0, 0)]
theorem k_A_compares_74_1 : bok m_A_compares 74 b_A_compares_74_1 = true := by decide +kernel
def b_A_compares_80_2 : List Ins := [(.iload_n 3, 0, 0, 0), (.iload 4, 0, 0, 0)]
theorem k_A_compares_80_2 : bok m_A_compares 80 b_A_compares_80_2 = true := by decide +kernel
def b_A_compares_90_1 : List Ins := [(.iconst (0), 0, 0, 0)]
theorem k_A_compares_90_1 : bok m_A_compares 90 b_A_compares_90_1 = true := by decide +kernel
def b_A_compares_86_1 : List Ins := [(.iconst (1), 0, 0, 0)]
theorem k_A_compares_86_1 : bok m_A_compares 86 b_A_compares_86_1 = true := by decide +kernel
theorem d_A_compares_7 : decode m_A_compares.2.1 7 = .ok (.invokestatic 47, 3) := by decide +kernel
theorem d_A_compares_18 : decode m_A_compares.2.1 18 = .ok (.invokestatic 47, 3) := by decide +kernel
theorem d_A_compares_29 : decode m_A_compares.2.1 29 = .ok (.lookupswitch (51) #[(0, 27), (1, 39)], 27) := by decide +kernel
theorem d_A_compares_59 : decode m_A_compares.2.1 59 = .ok (.if_icmp .ge (7), 3) := by decide +kernel
theorem d_A_compares_67 : decode m_A_compares.2.1 67 = .ok (.ireturn, 1) := by decide +kernel
theorem d_A_compares_63 : decode m_A_compares.2.1 63 = .ok (.goto (4), 3) := by decide +kernel
theorem d_A_compares_71 : decode m_A_compares.2.1 71 = .ok (.if_icmp .ne (7), 3) := by decide +kernel
theorem d_A_compares_79 : decode m_A_compares.2.1 79 = .ok (.ireturn, 1) := by decide +kernel
theorem d_A_compares_75 : decode m_A_compares.2.1 75 = .ok (.goto (4), 3) := by decide +kernel
theorem d_A_compares_83 : decode m_A_compares.2.1 83 = .ok (.if_icmp .le (7), 3) := by decide +kernel
theorem d_A_compares_91 : decode m_A_compares.2.1 91 = .ok (.ireturn, 1) := by decide +kernel
theorem d_A_compares_87 : decode m_A_compares.2.1 87 = .ok (.goto (4), 3) := by decide +kernel
def f_A_compares_80  (S : hs) (x1 : Int32) : Option (Int32 × hs) := ck (inb x1 100) (bd (f_A_valueOf_80  S (gI S 78 (x1).toNatClampNeg)) fun r2 S3 => bd (f_A_valueOf_80  S3 (gI S3 79 (x1).toNatClampNeg)) fun r5 S6 => (if (gI S6 77 (x1).toNatClampNeg) = (0 : Int32) then (if r5 ≤ r2 then some ((0 : Int32), S6) else some ((1 : Int32), S6)) else (if (gI S6 77 (x1).toNatClampNeg) = (1 : Int32) then (if r2 = r5 then some ((1 : Int32), S6) else some ((0 : Int32), S6)) else (if r2 ≤ r5 then some ((0 : Int32), S6) else some ((1 : Int32), S6)))))
theorem c_A_compares_80 (w : Wd) (d : Nat) (c : cx)   (S : hs) (x1 : Int32)  {z : Int32 × hs} (H : f_A_compares_80 S x1 = some z) : Cl w (d + 2) m_A_compares [.ref 74, .int x1, .ref 80] (mk c S) (some (.int z.1)) (mk c z.2) := by
  refine Cl.of (Nat.le_refl _) (Nat.le_refl _) (by decide +kernel) (Nat.le_of_ble_eq_true rfl) ?_
  unfold f_A_compares_80 at H
  generalize hN (mk c S) = n0
  generalize hZ (mk c S) = z0
  show J w (d + 2) m_A_compares (n0, z0, some (.int z.1), mk c z.2) 0 [some (.ref 74), some (.int x1), some (.ref 80), none, none] [] (mk c S)
  obtain ⟨g1, H⟩ := ck_e H
  refine J.run b_A_compares_0_5 k_A_compares_0_5 rfl (And.intro (okO_st (S := S) rfl) (And.intro (okA_st (S := S) (n := 100) rfl g1) (show J w (d + 2) m_A_compares (n0, z0, some (.int z.1), mk c z.2) 7 [some (.ref 74), some (.int x1), some (.ref 80), none, none] [.ref 80, .int (gI S 78 (x1).toNatClampNeg)] (mk c S) from ?_)))
  obtain ⟨r2, S3, h4, H⟩ := bd_e H
  refine J.callS (y := m_A_valueOf) (av := [.int (gI S 78 (x1).toNatClampNeg), .ref 80]) (rest := []) l_A_47 d_A_compares_7 (c_A_valueOf_80 w (d + 0) c  S (gI S 78 (x1).toNatClampNeg) h4) rfl (Nat.le_of_ble_eq_true rfl) ⟨Nat.le_refl _, Nat.le_refl _⟩ (show J w (d + 2) m_A_compares (n0, z0, some (.int z.1), mk c z.2) 10 [some (.ref 74), some (.int x1), some (.ref 80), none, none] [.int r2] (mk c S3) from ?_)
  refine J.run b_A_compares_10_6 k_A_compares_10_6 rfl (And.intro (okO_st (S := S3) rfl) (And.intro (okA_st (S := S3) (n := 100) rfl g1) (show J w (d + 2) m_A_compares (n0, z0, some (.int z.1), mk c z.2) 18 [some (.ref 74), some (.int x1), some (.ref 80), some (.int r2), none] [.ref 80, .int (gI S3 79 (x1).toNatClampNeg)] (mk c S3) from ?_)))
  obtain ⟨r5, S6, h7, H⟩ := bd_e H
  refine J.callS (y := m_A_valueOf) (av := [.int (gI S3 79 (x1).toNatClampNeg), .ref 80]) (rest := []) l_A_47 d_A_compares_18 (c_A_valueOf_80 w (d + 0) c  S3 (gI S3 79 (x1).toNatClampNeg) h7) rfl (Nat.le_of_ble_eq_true rfl) ⟨Nat.le_refl _, Nat.le_refl _⟩ (show J w (d + 2) m_A_compares (n0, z0, some (.int z.1), mk c z.2) 21 [some (.ref 74), some (.int x1), some (.ref 80), some (.int r2), none] [.int r5] (mk c S6) from ?_)
  refine J.run b_A_compares_21_5 k_A_compares_21_5 rfl (And.intro (okO_st (S := S6) rfl) (And.intro (okA_st (S := S6) (n := 100) rfl g1) (show J w (d + 2) m_A_compares (n0, z0, some (.int z.1), mk c z.2) 29 [some (.ref 74), some (.int x1), some (.ref 80), some (.int r2), some (.int r5)] [.int (gI S6 77 (x1).toNatClampNeg)] (mk c S6) from ?_)))
  by_cases q8 : (gI S6 77 (x1).toNatClampNeg) = (0 : Int32)
  · have H := ite_t H q8
    refine J.lsw (tgt := 56) (off := 27) d_A_compares_29 rfl (by show Op.lookupswitch.offset [(0, 27), (1, 39)] (51) _ = _;  rw [q8]; rfl) rfl ?_
    refine J.run b_A_compares_56_2 k_A_compares_56_2 rfl (show J w (d + 2) m_A_compares (n0, z0, some (.int z.1), mk c z.2) 59 [some (.ref 74), some (.int x1), some (.ref 80), some (.int r2), some (.int r5)] [.int r5, .int r2] (mk c S6) from ?_)
    refine J.cge (tgt := 66) d_A_compares_59 rfl (fun q9 => ?_) (fun q9 => ?_)
    · have H := ite_t H q9
      refine J.run b_A_compares_66_1 k_A_compares_66_1 rfl (show J w (d + 2) m_A_compares (n0, z0, some (.int z.1), mk c z.2) 67 [some (.ref 74), some (.int x1), some (.ref 80), some (.int r2), some (.int r5)] [.int (0 : Int32)] (mk c S6) from ?_)
      obtain rfl := some_e H
      exact J.nret d_A_compares_67 rfl rfl rfl
    · have H := ite_f H q9
      refine J.run b_A_compares_62_1 k_A_compares_62_1 rfl (show J w (d + 2) m_A_compares (n0, z0, some (.int z.1), mk c z.2) 63 [some (.ref 74), some (.int x1), some (.ref 80), some (.int r2), some (.int r5)] [.int (1 : Int32)] (mk c S6) from ?_)
      refine J.goto (tgt := 67) d_A_compares_63 rfl ?_
      obtain rfl := some_e H
      exact J.nret d_A_compares_67 rfl rfl rfl
  · have H := ite_f H q8
    by_cases q10 : (gI S6 77 (x1).toNatClampNeg) = (1 : Int32)
    · have H := ite_t H q10
      refine J.lsw (tgt := 68) (off := 39) d_A_compares_29 rfl (by show Op.lookupswitch.offset [(0, 27), (1, 39)] (51) _ = _; rw [lv_osw (a := 0) q8 rfl]; rw [q10]; rfl) rfl ?_
      refine J.run b_A_compares_68_2 k_A_compares_68_2 rfl (show J w (d + 2) m_A_compares (n0, z0, some (.int z.1), mk c z.2) 71 [some (.ref 74), some (.int x1), some (.ref 80), some (.int r2), some (.int r5)] [.int r5, .int r2] (mk c S6) from ?_)
      refine J.cne (tgt := 78) d_A_compares_71 rfl (fun q11 => ?_) (fun q11 => ?_)
      · have H := ite_f H q11
        refine J.run b_A_compares_78_1 k_A_compares_78_1 rfl (show J w (d + 2) m_A_compares (n0, z0, some (.int z.1), mk c z.2) 79 [some (.ref 74), some (.int x1), some (.ref 80), some (.int r2), some (.int r5)] [.int (0 : Int32)] (mk c S6) from ?_)
        obtain rfl := some_e H
        exact J.nret d_A_compares_79 rfl rfl rfl
      · have H := ite_t H q11
        refine J.run b_A_compares_74_1 k_A_compares_74_1 rfl (show J w (d + 2) m_A_compares (n0, z0, some (.int z.1), mk c z.2) 75 [some (.ref 74), some (.int x1), some (.ref 80), some (.int r2), some (.int r5)] [.int (1 : Int32)] (mk c S6) from ?_)
        refine J.goto (tgt := 79) d_A_compares_75 rfl ?_
        obtain rfl := some_e H
        exact J.nret d_A_compares_79 rfl rfl rfl
    · have H := ite_f H q10
      refine J.lsw (tgt := 80) (off := 51) d_A_compares_29 rfl (by show Op.lookupswitch.offset [(0, 27), (1, 39)] (51) _ = _; rw [lv_osw (a := 0) q8 rfl]; rw [lv_osw (a := 1) q10 rfl]; rfl) rfl ?_
      refine J.run b_A_compares_80_2 k_A_compares_80_2 rfl (show J w (d + 2) m_A_compares (n0, z0, some (.int z.1), mk c z.2) 83 [some (.ref 74), some (.int x1), some (.ref 80), some (.int r2), some (.int r5)] [.int r5, .int r2] (mk c S6) from ?_)
      refine J.cle (tgt := 90) d_A_compares_83 rfl (fun q12 => ?_) (fun q12 => ?_)
      · have H := ite_t H q12
        refine J.run b_A_compares_90_1 k_A_compares_90_1 rfl (show J w (d + 2) m_A_compares (n0, z0, some (.int z.1), mk c z.2) 91 [some (.ref 74), some (.int x1), some (.ref 80), some (.int r2), some (.int r5)] [.int (0 : Int32)] (mk c S6) from ?_)
        obtain rfl := some_e H
        exact J.nret d_A_compares_91 rfl rfl rfl
      · have H := ite_f H q12
        refine J.run b_A_compares_86_1 k_A_compares_86_1 rfl (show J w (d + 2) m_A_compares (n0, z0, some (.int z.1), mk c z.2) 87 [some (.ref 74), some (.int x1), some (.ref 80), some (.int r2), some (.int r5)] [.int (1 : Int32)] (mk c S6) from ?_)
        refine J.goto (tgt := 91) d_A_compares_87 rfl ?_
        obtain rfl := some_e H
        exact J.nret d_A_compares_91 rfl rfl rfl
def b_A_holds_0_3 : List Ins := [(.lconst 1, 0, 0, 0), (.lstore_n 3, 0, 0, 0), (.iload_n 1, 0, 0, 0)]
theorem k_A_holds_0_3 : bok m_A_holds 0 b_A_holds_0_3 = true := by decide +kernel
def b_A_holds_10_7 : List Ins := [(.aload_n 0, 0, 0, 0), (.getfield 15, 2, 1, 2), (.iload_n 1, 0, 0, 0), (.iconst (1), 0, 0, 0), (.isub, 0, 0, 0), (.iaload, 0, 0, 0), (.istore 5, 0, 0, 0)]
theorem k_A_holds_10_7 : bok m_A_holds 10 b_A_holds_10_7 = true := by decide +kernel
def b_A_holds_20_5 : List Ins := [(.iload 5, 0, 0, 0), (.aload_n 0, 0, 0, 0), (.getfield 15, 2, 1, 2), (.iload_n 1, 0, 0, 0), (.iaload, 0, 0, 0)]
theorem k_A_holds_20_5 : bok m_A_holds 20 b_A_holds_20_5 = true := by decide +kernel
def b_A_holds_31_2 : List Ins := [(.iload 5, 0, 0, 0), (.bipush (100), 0, 0, 0)]
theorem k_A_holds_31_2 : bok m_A_holds 31 b_A_holds_31_2 = true := by decide +kernel
def b_A_holds_38_4 : List Ins := [(.aload_n 0, 0, 0, 0), (.getfield 18, 2, 2, 2), (.iload 5, 0, 0, 0), (.iaload, 0, 0, 0)]
theorem k_A_holds_38_4 : bok m_A_holds 38 b_A_holds_38_4 = true := by decide +kernel
def b_A_holds_72_4 : List Ins := [(.lload_n 3, 0, 0, 0), (.lconst 1, 0, 0, 0), (.lxor, 0, 0, 0), (.lstore_n 3, 0, 0, 0)]
theorem k_A_holds_72_4 : bok m_A_holds 72 b_A_holds_72_4 = true := by decide +kernel
def b_A_holds_124_1 : List Ins := [(.iinc 5 (1), 0, 0, 0)]
theorem k_A_holds_124_1 : bok m_A_holds 124 b_A_holds_124_1 = true := by decide +kernel
def b_A_holds_79_8 : List Ins := [(.lload_n 3, 0, 0, 0), (.iconst (1), 0, 0, 0), (.lushr, 0, 0, 0), (.lload_n 3, 0, 0, 0), (.ldc2_w 42, 1, 2, 0), (.lor, 0, 0, 0), (.land, 0, 0, 0), (.lstore_n 3, 0, 0, 0)]
theorem k_A_holds_79_8 : bok m_A_holds 79 b_A_holds_79_8 = true := by decide +kernel
def b_A_holds_92_8 : List Ins := [(.lload_n 3, 0, 0, 0), (.iconst (1), 0, 0, 0), (.lushr, 0, 0, 0), (.lload_n 3, 0, 0, 0), (.lconst 1, 0, 0, 0), (.land, 0, 0, 0), (.lor, 0, 0, 0), (.lstore_n 3, 0, 0, 0)]
theorem k_A_holds_92_8 : bok m_A_holds 92 b_A_holds_92_8 = true := by decide +kernel
def b_A_holds_103_6 : List Ins := [(.lload_n 3, 0, 0, 0), (.iconst (1), 0, 0, 0), (.lshl, 0, 0, 0), (.aload_n 0, 0, 0, 0), (.iload 5, 0, 0, 0), (.aload_n 2, 0, 0, 0)]
theorem k_A_holds_103_6 : bok m_A_holds 103 b_A_holds_103_6 = true := by decide +kernel
def b_A_holds_120_5 : List Ins := [(.iconst (0), 0, 0, 0), (.i2l, 0, 0, 0), (.lor, 0, 0, 0), (.lstore_n 3, 0, 0, 0), (.iinc 5 (1), 0, 0, 0)]
theorem k_A_holds_120_5 : bok m_A_holds 120 b_A_holds_120_5 = true := by decide +kernel
def b_A_holds_116_1 : List Ins := [(.iconst (1), 0, 0, 0)]
theorem k_A_holds_116_1 : bok m_A_holds 116 b_A_holds_116_1 = true := by decide +kernel
def b_A_holds_121_4 : List Ins := [(.i2l, 0, 0, 0), (.lor, 0, 0, 0), (.lstore_n 3, 0, 0, 0), (.iinc 5 (1), 0, 0, 0)]
theorem k_A_holds_121_4 : bok m_A_holds 121 b_A_holds_121_4 = true := by decide +kernel
def b_A_holds_130_5 : List Ins := [(.lload_n 3, 0, 0, 0), (.lconst 1, 0, 0, 0), (.land, 0, 0, 0), (.lconst 0, 0, 0, 0), (.lcmp, 0, 0, 0)]
theorem k_A_holds_130_5 : bok m_A_holds 130 b_A_holds_130_5 = true := by decide +kernel
def b_A_holds_142_1 : List Ins := [(.iconst (0), 0, 0, 0)]
theorem k_A_holds_142_1 : bok m_A_holds 142 b_A_holds_142_1 = true := by decide +kernel
def b_A_holds_138_1 : List Ins := [(.iconst (1), 0, 0, 0)]
theorem k_A_holds_138_1 : bok m_A_holds 138 b_A_holds_138_1 = true := by decide +kernel
def b_A_holds_6_1 : List Ins := [(.iconst (0), 0, 0, 0)]
theorem k_A_holds_6_1 : bok m_A_holds 6 b_A_holds_6_1 = true := by decide +kernel
def b_A_holds_18_1 : List Ins := [(.istore 5, 0, 0, 0)]
theorem k_A_holds_18_1 : bok m_A_holds 18 b_A_holds_18_1 = true := by decide +kernel
theorem d_A_holds_3 : decode m_A_holds.2.1 3 = .ok (.ifCond .ne (7), 3) := by decide +kernel
theorem d_A_holds_28 : decode m_A_holds.2.1 28 = .ok (.if_icmp .ge (102), 3) := by decide +kernel
theorem d_A_holds_35 : decode m_A_holds.2.1 35 = .ok (.if_icmp .ge (95), 3) := by decide +kernel
theorem d_A_holds_45 : decode m_A_holds.2.1 45 = .ok (.tableswitch (58) (3) (5) #[27, 34, 47], 27) := by decide +kernel
theorem d_A_holds_76 : decode m_A_holds.2.1 76 = .ok (.goto (48), 3) := by decide +kernel
theorem d_A_holds_127 : decode m_A_holds.2.1 127 = .ok (.goto (-107), 3) := by decide +kernel
theorem d_A_holds_89 : decode m_A_holds.2.1 89 = .ok (.goto (35), 3) := by decide +kernel
theorem d_A_holds_100 : decode m_A_holds.2.1 100 = .ok (.goto (24), 3) := by decide +kernel
theorem d_A_holds_110 : decode m_A_holds.2.1 110 = .ok (.invokevirtual 44, 3) := by decide +kernel
theorem d_A_holds_113 : decode m_A_holds.2.1 113 = .ok (.ifCond .eq (7), 3) := by decide +kernel
theorem d_A_holds_117 : decode m_A_holds.2.1 117 = .ok (.goto (4), 3) := by decide +kernel
theorem d_A_holds_135 : decode m_A_holds.2.1 135 = .ok (.ifCond .eq (7), 3) := by decide +kernel
theorem d_A_holds_143 : decode m_A_holds.2.1 143 = .ok (.ireturn, 1) := by decide +kernel
theorem d_A_holds_139 : decode m_A_holds.2.1 139 = .ok (.goto (4), 3) := by decide +kernel
theorem d_A_holds_7 : decode m_A_holds.2.1 7 = .ok (.goto (11), 3) := by decide +kernel
def lp_A_holds_80_20 (x1 : Int32)  (K0 : hs → Int64 → Int32 → Option (Int32 × hs)) : Nat → hs → Int64 → Int32 → Option (Int32 × hs)
  | 0, _, _, _ => none
  | n + 1, S, x3, x5 => ck (inb x1 8) ((if (gI S 76 (x1).toNatClampNeg) ≤ x5 then K0 S x3 x5 else (if (100 : Int32) ≤ x5 then K0 S x3 x5 else ck (inb x5 100) ((if (gI S 77 (x5).toNatClampNeg) = (3 : Int32) then lp_A_holds_80_20 x1 K0 n S (x3 ^^^ (1 : Int64)) (x5 + (1 : Int32)) else (if (gI S 77 (x5).toNatClampNeg) = (4 : Int32) then lp_A_holds_80_20 x1 K0 n S ((lushr x3 (1 : Int32)) &&& (x3 ||| (-2 : Int64))) (x5 + (1 : Int32)) else (if (gI S 77 (x5).toNatClampNeg) = (5 : Int32) then lp_A_holds_80_20 x1 K0 n S ((lushr x3 (1 : Int32)) ||| (x3 &&& (1 : Int64))) (x5 + (1 : Int32)) else bd (f_A_compares_80  S x5) fun r10 S11 => (if r10 = 0 then lp_A_holds_80_20 x1 K0 n S11 ((x3 <<< ((1 : Int32).toInt64 &&& 63)) ||| ((0 : Int32).toInt64)) (x5 + (1 : Int32)) else lp_A_holds_80_20 x1 K0 n S11 ((x3 <<< ((1 : Int32).toInt64 &&& 63)) ||| ((1 : Int32).toInt64)) (x5 + (1 : Int32))))))))))
def f_A_holds_80  (S : hs) (x1 : Int32) : Option (Int32 × hs) := (if x1 = 0 then lp_A_holds_80_20 x1 (fun (S18 : hs) (y19 : Int64) (y20 : Int32) => (if (lg_cmp (y19 &&& (1 : Int64)) (0 : Int64)) = 0 then some ((0 : Int32), S18) else some ((1 : Int32), S18))) 1000 S (1 : Int64) (0 : Int32) else ck (inb (x1 - (1 : Int32)) 8) (lp_A_holds_80_20 x1 (fun (S14 : hs) (y15 : Int64) (y16 : Int32) => (if (lg_cmp (y15 &&& (1 : Int64)) (0 : Int64)) = 0 then some ((0 : Int32), S14) else some ((1 : Int32), S14))) 1000 S (1 : Int64) (gI S 76 ((x1 - (1 : Int32))).toNatClampNeg)))
theorem lo_A_holds_80_20 (w : Wd) (d : Nat) (c : cx) {n0 z0 : Nat} {z : Int32 × hs}  {K0 : hs → Int64 → Int32 → Option (Int32 × hs)} (x1 : Int32)   (hK0 : ∀ (S : hs) (x3 : Int64) (x5 : Int32), K0 S x3 x5 = some z → J w (d + 3) m_A_holds (n0, z0, some (.int z.1), mk c z.2) 130 [none, none, none, some (.long x3), none, none] [] (mk c S)) :
    ∀ (n : Nat) (S : hs) (x3 : Int64) (x5 : Int32), lp_A_holds_80_20 x1 K0 n S x3 x5 = some z → J w (d + 3) m_A_holds (n0, z0, some (.int z.1), mk c z.2) 20 [some (.ref 74), some (.int x1), some (.ref 80), some (.long x3), none, some (.int x5)] [] (mk c S) := by
  intro n
  induction n with
  | zero => intro S x3 x5 H; cases H
  | succ n ih =>
    intro S x3 x5 H
    rw [lp_A_holds_80_20] at H
    obtain ⟨g3, H⟩ := ck_e H
    refine J.run b_A_holds_20_5 k_A_holds_20_5 rfl (And.intro (okO_st (S := S) rfl) (And.intro (okA_st (S := S) (n := 8) rfl g3) (show J w (d + 3) m_A_holds (n0, z0, some (.int z.1), mk c z.2) 28 [some (.ref 74), some (.int x1), some (.ref 80), some (.long x3), none, some (.int x5)] [.int (gI S 76 (x1).toNatClampNeg), .int x5] (mk c S) from ?_)))
    refine J.cge (tgt := 130) d_A_holds_28 rfl (fun q4 => ?_) (fun q4 => ?_)
    · have H := ite_t H q4
      refine J.mask [false, false, false, true, false, false] ?_
      exact hK0 S x3 x5 H
    · have H := ite_f H q4
      refine J.run b_A_holds_31_2 k_A_holds_31_2 rfl (show J w (d + 3) m_A_holds (n0, z0, some (.int z.1), mk c z.2) 35 [some (.ref 74), some (.int x1), some (.ref 80), some (.long x3), none, some (.int x5)] [.int (100 : Int32), .int x5] (mk c S) from ?_)
      refine J.cge (tgt := 130) d_A_holds_35 rfl (fun q5 => ?_) (fun q5 => ?_)
      · have H := ite_t H q5
        refine J.mask [false, false, false, true, false, false] ?_
        exact hK0 S x3 x5 H
      · have H := ite_f H q5
        obtain ⟨g6, H⟩ := ck_e H
        refine J.run b_A_holds_38_4 k_A_holds_38_4 rfl (And.intro (okO_st (S := S) rfl) (And.intro (okA_st (S := S) (n := 100) rfl g6) (show J w (d + 3) m_A_holds (n0, z0, some (.int z.1), mk c z.2) 45 [some (.ref 74), some (.int x1), some (.ref 80), some (.long x3), none, some (.int x5)] [.int (gI S 77 (x5).toNatClampNeg)] (mk c S) from ?_)))
        by_cases q7 : (gI S 77 (x5).toNatClampNeg) = (3 : Int32)
        · have H := ite_t H q7
          refine J.tsIn (off := 27) (tgt := 72) d_A_holds_45 (by rw [q7]; decide) (by rw [q7]; decide) (by rw [q7]; rfl) rfl ?_
          refine J.run b_A_holds_72_4 k_A_holds_72_4 rfl (show J w (d + 3) m_A_holds (n0, z0, some (.int z.1), mk c z.2) 76 [some (.ref 74), some (.int x1), some (.ref 80), some (.long (x3 ^^^ (1 : Int64))), none, some (.int x5)] [] (mk c S) from ?_)
          refine J.goto (tgt := 124) d_A_holds_76 rfl ?_
          refine J.run b_A_holds_124_1 k_A_holds_124_1 rfl (show J w (d + 3) m_A_holds (n0, z0, some (.int z.1), mk c z.2) 127 [some (.ref 74), some (.int x1), some (.ref 80), some (.long (x3 ^^^ (1 : Int64))), none, some (.int (x5 + (1 : Int32)))] [] (mk c S) from ?_)
          refine J.goto (tgt := 20) d_A_holds_127 rfl ?_
          refine J.mask [true, true, true, true, false, true] ?_
          exact ih S (x3 ^^^ (1 : Int64)) (x5 + (1 : Int32)) H
        · have H := ite_f H q7
          by_cases q8 : (gI S 77 (x5).toNatClampNeg) = (4 : Int32)
          · have H := ite_t H q8
            refine J.tsIn (off := 34) (tgt := 79) d_A_holds_45 (by rw [q8]; decide) (by rw [q8]; decide) (by rw [q8]; rfl) rfl ?_
            refine J.run b_A_holds_79_8 k_A_holds_79_8 rfl (show J w (d + 3) m_A_holds (n0, z0, some (.int z.1), mk c z.2) 89 [some (.ref 74), some (.int x1), some (.ref 80), some (.long ((lushr x3 (1 : Int32)) &&& (x3 ||| (-2 : Int64)))), none, some (.int x5)] [] (mk c S) from ?_)
            refine J.goto (tgt := 124) d_A_holds_89 rfl ?_
            refine J.run b_A_holds_124_1 k_A_holds_124_1 rfl (show J w (d + 3) m_A_holds (n0, z0, some (.int z.1), mk c z.2) 127 [some (.ref 74), some (.int x1), some (.ref 80), some (.long ((lushr x3 (1 : Int32)) &&& (x3 ||| (-2 : Int64)))), none, some (.int (x5 + (1 : Int32)))] [] (mk c S) from ?_)
            refine J.goto (tgt := 20) d_A_holds_127 rfl ?_
            refine J.mask [true, true, true, true, false, true] ?_
            exact ih S ((lushr x3 (1 : Int32)) &&& (x3 ||| (-2 : Int64))) (x5 + (1 : Int32)) H
          · have H := ite_f H q8
            by_cases q9 : (gI S 77 (x5).toNatClampNeg) = (5 : Int32)
            · have H := ite_t H q9
              refine J.tsIn (off := 47) (tgt := 92) d_A_holds_45 (by rw [q9]; decide) (by rw [q9]; decide) (by rw [q9]; rfl) rfl ?_
              refine J.run b_A_holds_92_8 k_A_holds_92_8 rfl (show J w (d + 3) m_A_holds (n0, z0, some (.int z.1), mk c z.2) 100 [some (.ref 74), some (.int x1), some (.ref 80), some (.long ((lushr x3 (1 : Int32)) ||| (x3 &&& (1 : Int64)))), none, some (.int x5)] [] (mk c S) from ?_)
              refine J.goto (tgt := 124) d_A_holds_100 rfl ?_
              refine J.run b_A_holds_124_1 k_A_holds_124_1 rfl (show J w (d + 3) m_A_holds (n0, z0, some (.int z.1), mk c z.2) 127 [some (.ref 74), some (.int x1), some (.ref 80), some (.long ((lushr x3 (1 : Int32)) ||| (x3 &&& (1 : Int64)))), none, some (.int (x5 + (1 : Int32)))] [] (mk c S) from ?_)
              refine J.goto (tgt := 20) d_A_holds_127 rfl ?_
              refine J.mask [true, true, true, true, false, true] ?_
              exact ih S ((lushr x3 (1 : Int32)) ||| (x3 &&& (1 : Int64))) (x5 + (1 : Int32)) H
            · have H := ite_f H q9
              refine J.tsOut (tgt := 103) d_A_holds_45 (tsO fun k h1 h2 => ?_) rfl ?_
              · rcases (show k = 3 ∨ k = 4 ∨ k = 5 by omega) with rfl | rfl | rfl
                · exact lv_neT q7 rfl
                · exact lv_neT q8 rfl
                · exact lv_neT q9 rfl
              · refine J.run b_A_holds_103_6 k_A_holds_103_6 rfl (show J w (d + 3) m_A_holds (n0, z0, some (.int z.1), mk c z.2) 110 [some (.ref 74), some (.int x1), some (.ref 80), some (.long x3), none, some (.int x5)] [.ref 80, .int x5, .ref 74, .long (x3 <<< ((1 : Int32).toInt64 &&& 63))] (mk c S) from ?_)
                obtain ⟨r10, S11, h12, H⟩ := bd_e H
                refine J.callV (y := m_A_compares) (av := [.int x5, .ref 80]) (rest := [.long (x3 <<< ((1 : Int32).toInt64 &&& 63))]) (q := 74) l_A_44 d_A_holds_110 (isC_st rfl rfl) (c_A_compares_80 w (d + 0) c  S x5 h12) rfl (Nat.le_of_ble_eq_true rfl) ⟨Nat.le_refl _, Nat.le_refl _⟩ (show J w (d + 3) m_A_holds (n0, z0, some (.int z.1), mk c z.2) 113 [some (.ref 74), some (.int x1), some (.ref 80), some (.long x3), none, some (.int x5)] [.int r10, .long (x3 <<< ((1 : Int32).toInt64 &&& 63))] (mk c S11) from ?_)
                refine J.zeq (tgt := 120) d_A_holds_113 rfl (fun q13 => ?_) (fun q13 => ?_)
                · have H := ite_t H q13
                  refine J.run b_A_holds_120_5 k_A_holds_120_5 rfl (show J w (d + 3) m_A_holds (n0, z0, some (.int z.1), mk c z.2) 127 [some (.ref 74), some (.int x1), some (.ref 80), some (.long ((x3 <<< ((1 : Int32).toInt64 &&& 63)) ||| ((0 : Int32).toInt64))), none, some (.int (x5 + (1 : Int32)))] [] (mk c S11) from ?_)
                  refine J.goto (tgt := 20) d_A_holds_127 rfl ?_
                  refine J.mask [true, true, true, true, false, true] ?_
                  exact ih S11 ((x3 <<< ((1 : Int32).toInt64 &&& 63)) ||| ((0 : Int32).toInt64)) (x5 + (1 : Int32)) H
                · have H := ite_f H q13
                  refine J.run b_A_holds_116_1 k_A_holds_116_1 rfl (show J w (d + 3) m_A_holds (n0, z0, some (.int z.1), mk c z.2) 117 [some (.ref 74), some (.int x1), some (.ref 80), some (.long x3), none, some (.int x5)] [.int (1 : Int32), .long (x3 <<< ((1 : Int32).toInt64 &&& 63))] (mk c S11) from ?_)
                  refine J.goto (tgt := 121) d_A_holds_117 rfl ?_
                  refine J.run b_A_holds_121_4 k_A_holds_121_4 rfl (show J w (d + 3) m_A_holds (n0, z0, some (.int z.1), mk c z.2) 127 [some (.ref 74), some (.int x1), some (.ref 80), some (.long ((x3 <<< ((1 : Int32).toInt64 &&& 63)) ||| ((1 : Int32).toInt64))), none, some (.int (x5 + (1 : Int32)))] [] (mk c S11) from ?_)
                  refine J.goto (tgt := 20) d_A_holds_127 rfl ?_
                  refine J.mask [true, true, true, true, false, true] ?_
                  exact ih S11 ((x3 <<< ((1 : Int32).toInt64 &&& 63)) ||| ((1 : Int32).toInt64)) (x5 + (1 : Int32)) H
theorem c_A_holds_80 (w : Wd) (d : Nat) (c : cx)   (S : hs) (x1 : Int32)  {z : Int32 × hs} (H : f_A_holds_80 S x1 = some z) : Cl w (d + 3) m_A_holds [.ref 74, .int x1, .ref 80] (mk c S) (some (.int z.1)) (mk c z.2) := by
  refine Cl.of (Nat.le_refl _) (Nat.le_refl _) (by decide +kernel) (Nat.le_of_ble_eq_true rfl) ?_
  unfold f_A_holds_80 at H
  generalize hN (mk c S) = n0
  generalize hZ (mk c S) = z0
  show J w (d + 3) m_A_holds (n0, z0, some (.int z.1), mk c z.2) 0 [some (.ref 74), some (.int x1), some (.ref 80), none, none, none] [] (mk c S)
  refine J.run b_A_holds_0_3 k_A_holds_0_3 rfl (show J w (d + 3) m_A_holds (n0, z0, some (.int z.1), mk c z.2) 3 [some (.ref 74), some (.int x1), some (.ref 80), some (.long (1 : Int64)), none, none] [.int x1] (mk c S) from ?_)
  refine J.zne (tgt := 10) d_A_holds_3 rfl (fun q1 => ?_) (fun q1 => ?_)
  · have H := ite_f H q1
    obtain ⟨g2, H⟩ := ck_e H
    refine J.run b_A_holds_10_7 k_A_holds_10_7 rfl (And.intro (okO_st (S := S) rfl) (And.intro (okA_st (S := S) (n := 8) rfl g2) (show J w (d + 3) m_A_holds (n0, z0, some (.int z.1), mk c z.2) 20 [some (.ref 74), some (.int x1), some (.ref 80), some (.long (1 : Int64)), none, some (.int (gI S 76 ((x1 - (1 : Int32))).toNatClampNeg))] [] (mk c S) from ?_)))
    refine J.mask [true, true, true, true, false, true] ?_
    refine lo_A_holds_80_20 w d c x1 ?_ 1000 S (1 : Int64) (gI S 76 ((x1 - (1 : Int32))).toNatClampNeg) H
    · intro S14 y15 y16 H
      try dsimp only at H
      refine J.run b_A_holds_130_5 k_A_holds_130_5 rfl (show J w (d + 3) m_A_holds (n0, z0, some (.int z.1), mk c z.2) 135 [none, none, none, some (.long y15), none, none] [.int (lg_cmp (y15 &&& (1 : Int64)) (0 : Int64))] (mk c S14) from ?_)
      refine J.zeq (tgt := 142) d_A_holds_135 rfl (fun q17 => ?_) (fun q17 => ?_)
      · have H := ite_t H q17
        refine J.run b_A_holds_142_1 k_A_holds_142_1 rfl (show J w (d + 3) m_A_holds (n0, z0, some (.int z.1), mk c z.2) 143 [none, none, none, some (.long y15), none, none] [.int (0 : Int32)] (mk c S14) from ?_)
        obtain rfl := some_e H
        exact J.nret d_A_holds_143 rfl rfl rfl
      · have H := ite_f H q17
        refine J.run b_A_holds_138_1 k_A_holds_138_1 rfl (show J w (d + 3) m_A_holds (n0, z0, some (.int z.1), mk c z.2) 139 [none, none, none, some (.long y15), none, none] [.int (1 : Int32)] (mk c S14) from ?_)
        refine J.goto (tgt := 143) d_A_holds_139 rfl ?_
        obtain rfl := some_e H
        exact J.nret d_A_holds_143 rfl rfl rfl
  · have H := ite_t H q1
    refine J.run b_A_holds_6_1 k_A_holds_6_1 rfl (show J w (d + 3) m_A_holds (n0, z0, some (.int z.1), mk c z.2) 7 [some (.ref 74), some (.int x1), some (.ref 80), some (.long (1 : Int64)), none, none] [.int (0 : Int32)] (mk c S) from ?_)
    refine J.goto (tgt := 18) d_A_holds_7 rfl ?_
    refine J.run b_A_holds_18_1 k_A_holds_18_1 rfl (show J w (d + 3) m_A_holds (n0, z0, some (.int z.1), mk c z.2) 20 [some (.ref 74), some (.int x1), some (.ref 80), some (.long (1 : Int64)), none, some (.int (0 : Int32))] [] (mk c S) from ?_)
    refine J.mask [true, true, true, true, false, true] ?_
    refine lo_A_holds_80_20 w d c x1 ?_ 1000 S (1 : Int64) (0 : Int32) H
    · intro S18 y19 y20 H
      try dsimp only at H
      refine J.run b_A_holds_130_5 k_A_holds_130_5 rfl (show J w (d + 3) m_A_holds (n0, z0, some (.int z.1), mk c z.2) 135 [none, none, none, some (.long y19), none, none] [.int (lg_cmp (y19 &&& (1 : Int64)) (0 : Int64))] (mk c S18) from ?_)
      refine J.zeq (tgt := 142) d_A_holds_135 rfl (fun q21 => ?_) (fun q21 => ?_)
      · have H := ite_t H q21
        refine J.run b_A_holds_142_1 k_A_holds_142_1 rfl (show J w (d + 3) m_A_holds (n0, z0, some (.int z.1), mk c z.2) 143 [none, none, none, some (.long y19), none, none] [.int (0 : Int32)] (mk c S18) from ?_)
        obtain rfl := some_e H
        exact J.nret d_A_holds_143 rfl rfl rfl
      · have H := ite_f H q21
        refine J.run b_A_holds_138_1 k_A_holds_138_1 rfl (show J w (d + 3) m_A_holds (n0, z0, some (.int z.1), mk c z.2) 139 [none, none, none, some (.long y19), none, none] [.int (1 : Int32)] (mk c S18) from ?_)
        refine J.goto (tgt := 143) d_A_holds_139 rfl ?_
        obtain rfl := some_e H
        exact J.nret d_A_holds_143 rfl rfl rfl
def b_A_allows_0_2 : List Ins := [(.aload_n 0, 0, 0, 0), (.getfield 27, 2, 5, 0)]
theorem k_A_allows_0_2 : bok m_A_allows 0 b_A_allows_0_2 = true := by decide +kernel
def b_A_allows_26_2 : List Ins := [(.iconst (0), 0, 0, 0), (.istore_n 3, 0, 0, 0)]
theorem k_A_allows_26_2 : bok m_A_allows 26 b_A_allows_26_2 = true := by decide +kernel
def b_A_allows_28_3 : List Ins := [(.iload_n 3, 0, 0, 0), (.aload_n 0, 0, 0, 0), (.getfield 27, 2, 5, 0)]
theorem k_A_allows_28_3 : bok m_A_allows 28 b_A_allows_28_3 = true := by decide +kernel
def b_A_allows_72_1 : List Ins := [(.iconst (0), 0, 0, 0)]
theorem k_A_allows_72_1 : bok m_A_allows 72 b_A_allows_72_1 = true := by decide +kernel
def b_A_allows_36_2 : List Ins := [(.iload_n 3, 0, 0, 0), (.bipush (8), 0, 0, 0)]
theorem k_A_allows_36_2 : bok m_A_allows 36 b_A_allows_36_2 = true := by decide +kernel
def b_A_allows_42_5 : List Ins := [(.iload_n 1, 0, 0, 0), (.aload_n 0, 0, 0, 0), (.getfield 9, 2, 0, 2), (.iload_n 3, 0, 0, 0), (.iaload, 0, 0, 0)]
theorem k_A_allows_42_5 : bok m_A_allows 42 b_A_allows_42_5 = true := by decide +kernel
def b_A_allows_66_1 : List Ins := [(.iinc 3 (1), 0, 0, 0)]
theorem k_A_allows_66_1 : bok m_A_allows 66 b_A_allows_66_1 = true := by decide +kernel
def b_A_allows_55_3 : List Ins := [(.aload_n 0, 0, 0, 0), (.iload_n 3, 0, 0, 0), (.aload_n 2, 0, 0, 0)]
theorem k_A_allows_55_3 : bok m_A_allows 55 b_A_allows_55_3 = true := by decide +kernel
def b_A_allows_64_1 : List Ins := [(.iconst (1), 0, 0, 0)]
theorem k_A_allows_64_1 : bok m_A_allows 64 b_A_allows_64_1 = true := by decide +kernel
def b_A_allows_7_2 : List Ins := [(.iload_n 1, 0, 0, 0), (.iconst (1), 0, 0, 0)]
theorem k_A_allows_7_2 : bok m_A_allows 7 b_A_allows_7_2 = true := by decide +kernel
def b_A_allows_20_1 : List Ins := [(.iconst (1), 0, 0, 0)]
theorem k_A_allows_20_1 : bok m_A_allows 20 b_A_allows_20_1 = true := by decide +kernel
def b_A_allows_12_2 : List Ins := [(.iload_n 1, 0, 0, 0), (.iconst (2), 0, 0, 0)]
theorem k_A_allows_12_2 : bok m_A_allows 12 b_A_allows_12_2 = true := by decide +kernel
def b_A_allows_24_1 : List Ins := [(.iconst (0), 0, 0, 0)]
theorem k_A_allows_24_1 : bok m_A_allows 24 b_A_allows_24_1 = true := by decide +kernel
theorem d_A_allows_4 : decode m_A_allows.2.1 4 = .ok (.ifCond .ne (22), 3) := by decide +kernel
theorem d_A_allows_33 : decode m_A_allows.2.1 33 = .ok (.if_icmp .ge (39), 3) := by decide +kernel
theorem d_A_allows_73 : decode m_A_allows.2.1 73 = .ok (.ireturn, 1) := by decide +kernel
theorem d_A_allows_39 : decode m_A_allows.2.1 39 = .ok (.if_icmp .ge (33), 3) := by decide +kernel
theorem d_A_allows_49 : decode m_A_allows.2.1 49 = .ok (.invokestatic 34, 3) := by decide +kernel
theorem d_A_allows_52 : decode m_A_allows.2.1 52 = .ok (.ifCond .eq (14), 3) := by decide +kernel
theorem d_A_allows_69 : decode m_A_allows.2.1 69 = .ok (.goto (-41), 3) := by decide +kernel
theorem d_A_allows_58 : decode m_A_allows.2.1 58 = .ok (.invokevirtual 38, 3) := by decide +kernel
theorem d_A_allows_61 : decode m_A_allows.2.1 61 = .ok (.ifCond .eq (5), 3) := by decide +kernel
theorem d_A_allows_65 : decode m_A_allows.2.1 65 = .ok (.ireturn, 1) := by decide +kernel
theorem d_A_allows_9 : decode m_A_allows.2.1 9 = .ok (.if_icmp .eq (11), 3) := by decide +kernel
theorem d_A_allows_21 : decode m_A_allows.2.1 21 = .ok (.goto (4), 3) := by decide +kernel
theorem d_A_allows_25 : decode m_A_allows.2.1 25 = .ok (.ireturn, 1) := by decide +kernel
theorem d_A_allows_14 : decode m_A_allows.2.1 14 = .ok (.invokestatic 34, 3) := by decide +kernel
theorem d_A_allows_17 : decode m_A_allows.2.1 17 = .ok (.ifCond .eq (7), 3) := by decide +kernel
def lp_A_allows_80_28 (x1 : Int32)   : Nat → hs → Int32 → Option (Int32 × hs)
  | 0, _, _ => none
  | n + 1, S, x3 => (if (gI S 74 5) ≤ x3 then some ((0 : Int32), S) else (if (8 : Int32) ≤ x3 then some ((0 : Int32), S) else ck (inb x3 8) (bd (f_X_isUnder  S x1 (gI S 75 (x3).toNatClampNeg)) fun r5 S6 => (if r5 = 0 then lp_A_allows_80_28 x1 n S6 (x3 + (1 : Int32)) else bd (f_A_holds_80  S6 x3) fun r9 S10 => (if r9 = 0 then lp_A_allows_80_28 x1 n S10 (x3 + (1 : Int32)) else some ((1 : Int32), S10))))))
def f_A_allows_80  (S : hs) (x1 : Int32) : Option (Int32 × hs) := (if (gI S 74 5) = 0 then (if x1 = (1 : Int32) then some ((1 : Int32), S) else bd (f_X_isUnder  S x1 (2 : Int32)) fun r14 S15 => (if r14 = 0 then some ((0 : Int32), S15) else some ((1 : Int32), S15))) else lp_A_allows_80_28 x1 1000 S (0 : Int32))
theorem lo_A_allows_80_28 (w : Wd) (d : Nat) (c : cx) {n0 z0 : Nat} {z : Int32 × hs}   (x1 : Int32)    :
    ∀ (n : Nat) (S : hs) (x3 : Int32), lp_A_allows_80_28 x1 n S x3 = some z → J w (d + 4) m_A_allows (n0, z0, some (.int z.1), mk c z.2) 28 [some (.ref 74), some (.int x1), some (.ref 80), some (.int x3)] [] (mk c S) := by
  intro n
  induction n with
  | zero => intro S x3 H; cases H
  | succ n ih =>
    intro S x3 H
    rw [lp_A_allows_80_28] at H
    refine J.run b_A_allows_28_3 k_A_allows_28_3 rfl (And.intro (okO_st (S := S) rfl) (show J w (d + 4) m_A_allows (n0, z0, some (.int z.1), mk c z.2) 33 [some (.ref 74), some (.int x1), some (.ref 80), some (.int x3)] [.int (gI S 74 5), .int x3] (mk c S) from ?_))
    refine J.cge (tgt := 72) d_A_allows_33 rfl (fun q2 => ?_) (fun q2 => ?_)
    · have H := ite_t H q2
      refine J.run b_A_allows_72_1 k_A_allows_72_1 rfl (show J w (d + 4) m_A_allows (n0, z0, some (.int z.1), mk c z.2) 73 [some (.ref 74), some (.int x1), some (.ref 80), some (.int x3)] [.int (0 : Int32)] (mk c S) from ?_)
      obtain rfl := some_e H
      exact J.nret d_A_allows_73 rfl rfl rfl
    · have H := ite_f H q2
      refine J.run b_A_allows_36_2 k_A_allows_36_2 rfl (show J w (d + 4) m_A_allows (n0, z0, some (.int z.1), mk c z.2) 39 [some (.ref 74), some (.int x1), some (.ref 80), some (.int x3)] [.int (8 : Int32), .int x3] (mk c S) from ?_)
      refine J.cge (tgt := 72) d_A_allows_39 rfl (fun q3 => ?_) (fun q3 => ?_)
      · have H := ite_t H q3
        refine J.run b_A_allows_72_1 k_A_allows_72_1 rfl (show J w (d + 4) m_A_allows (n0, z0, some (.int z.1), mk c z.2) 73 [some (.ref 74), some (.int x1), some (.ref 80), some (.int x3)] [.int (0 : Int32)] (mk c S) from ?_)
        obtain rfl := some_e H
        exact J.nret d_A_allows_73 rfl rfl rfl
      · have H := ite_f H q3
        obtain ⟨g4, H⟩ := ck_e H
        refine J.run b_A_allows_42_5 k_A_allows_42_5 rfl (And.intro (okO_st (S := S) rfl) (And.intro (okA_st (S := S) (n := 8) rfl g4) (show J w (d + 4) m_A_allows (n0, z0, some (.int z.1), mk c z.2) 49 [some (.ref 74), some (.int x1), some (.ref 80), some (.int x3)] [.int (gI S 75 (x3).toNatClampNeg), .int x1] (mk c S) from ?_)))
        obtain ⟨r5, S6, h7, H⟩ := bd_e H
        refine J.callSn (y := m_X_isUnder) (av := [.int x1, .int (gI S 75 (x3).toNatClampNeg)]) (rest := []) l_A_34 d_A_allows_49 (c_X_isUnder w (d + 2) c  S x1 (gI S 75 (x3).toNatClampNeg) h7) rfl (Nat.le_of_ble_eq_true rfl) ⟨Nat.le_refl _, Nat.le_refl _⟩ (show J w (d + 4) m_A_allows (n0, z0, some (.int z.1), mk c z.2) 52 [some (.ref 74), some (.int x1), some (.ref 80), some (.int x3)] [.int r5] (mk c S6) from ?_)
        refine J.zeq (tgt := 66) d_A_allows_52 rfl (fun q8 => ?_) (fun q8 => ?_)
        · have H := ite_t H q8
          refine J.run b_A_allows_66_1 k_A_allows_66_1 rfl (show J w (d + 4) m_A_allows (n0, z0, some (.int z.1), mk c z.2) 69 [some (.ref 74), some (.int x1), some (.ref 80), some (.int (x3 + (1 : Int32)))] [] (mk c S6) from ?_)
          refine J.goto (tgt := 28) d_A_allows_69 rfl ?_
          refine J.mask [true, true, true, true] ?_
          exact ih S6 (x3 + (1 : Int32)) H
        · have H := ite_f H q8
          refine J.run b_A_allows_55_3 k_A_allows_55_3 rfl (show J w (d + 4) m_A_allows (n0, z0, some (.int z.1), mk c z.2) 58 [some (.ref 74), some (.int x1), some (.ref 80), some (.int x3)] [.ref 80, .int x3, .ref 74] (mk c S6) from ?_)
          obtain ⟨r9, S10, h11, H⟩ := bd_e H
          refine J.callV (y := m_A_holds) (av := [.int x3, .ref 80]) (rest := []) (q := 74) l_A_38 d_A_allows_58 (isC_st rfl rfl) (c_A_holds_80 w (d + 0) c  S6 x3 h11) rfl (Nat.le_of_ble_eq_true rfl) ⟨Nat.le_refl _, Nat.le_refl _⟩ (show J w (d + 4) m_A_allows (n0, z0, some (.int z.1), mk c z.2) 61 [some (.ref 74), some (.int x1), some (.ref 80), some (.int x3)] [.int r9] (mk c S10) from ?_)
          refine J.zeq (tgt := 66) d_A_allows_61 rfl (fun q12 => ?_) (fun q12 => ?_)
          · have H := ite_t H q12
            refine J.run b_A_allows_66_1 k_A_allows_66_1 rfl (show J w (d + 4) m_A_allows (n0, z0, some (.int z.1), mk c z.2) 69 [some (.ref 74), some (.int x1), some (.ref 80), some (.int (x3 + (1 : Int32)))] [] (mk c S10) from ?_)
            refine J.goto (tgt := 28) d_A_allows_69 rfl ?_
            refine J.mask [true, true, true, true] ?_
            exact ih S10 (x3 + (1 : Int32)) H
          · have H := ite_f H q12
            refine J.run b_A_allows_64_1 k_A_allows_64_1 rfl (show J w (d + 4) m_A_allows (n0, z0, some (.int z.1), mk c z.2) 65 [some (.ref 74), some (.int x1), some (.ref 80), some (.int x3)] [.int (1 : Int32)] (mk c S10) from ?_)
            obtain rfl := some_e H
            exact J.nret d_A_allows_65 rfl rfl rfl
theorem c_A_allows_80 (w : Wd) (d : Nat) (c : cx)   (S : hs) (x1 : Int32)  {z : Int32 × hs} (H : f_A_allows_80 S x1 = some z) : Cl w (d + 4) m_A_allows [.ref 74, .int x1, .ref 80] (mk c S) (some (.int z.1)) (mk c z.2) := by
  refine Cl.of (Nat.le_refl _) (Nat.le_refl _) (by decide +kernel) (Nat.le_of_ble_eq_true rfl) ?_
  unfold f_A_allows_80 at H
  generalize hN (mk c S) = n0
  generalize hZ (mk c S) = z0
  show J w (d + 4) m_A_allows (n0, z0, some (.int z.1), mk c z.2) 0 [some (.ref 74), some (.int x1), some (.ref 80), none] [] (mk c S)
  refine J.run b_A_allows_0_2 k_A_allows_0_2 rfl (And.intro (okO_st (S := S) rfl) (show J w (d + 4) m_A_allows (n0, z0, some (.int z.1), mk c z.2) 4 [some (.ref 74), some (.int x1), some (.ref 80), none] [.int (gI S 74 5)] (mk c S) from ?_))
  refine J.zne (tgt := 26) d_A_allows_4 rfl (fun q1 => ?_) (fun q1 => ?_)
  · have H := ite_f H q1
    refine J.run b_A_allows_26_2 k_A_allows_26_2 rfl (show J w (d + 4) m_A_allows (n0, z0, some (.int z.1), mk c z.2) 28 [some (.ref 74), some (.int x1), some (.ref 80), some (.int (0 : Int32))] [] (mk c S) from ?_)
    refine J.mask [true, true, true, true] ?_
    refine lo_A_allows_80_28 w d c x1  1000 S (0 : Int32) H
  · have H := ite_t H q1
    refine J.run b_A_allows_7_2 k_A_allows_7_2 rfl (show J w (d + 4) m_A_allows (n0, z0, some (.int z.1), mk c z.2) 9 [some (.ref 74), some (.int x1), some (.ref 80), none] [.int (1 : Int32), .int x1] (mk c S) from ?_)
    refine J.ceq (tgt := 20) d_A_allows_9 rfl (fun q13 => ?_) (fun q13 => ?_)
    · have H := ite_t H q13
      refine J.run b_A_allows_20_1 k_A_allows_20_1 rfl (show J w (d + 4) m_A_allows (n0, z0, some (.int z.1), mk c z.2) 21 [some (.ref 74), some (.int x1), some (.ref 80), none] [.int (1 : Int32)] (mk c S) from ?_)
      refine J.goto (tgt := 25) d_A_allows_21 rfl ?_
      obtain rfl := some_e H
      exact J.nret d_A_allows_25 rfl rfl rfl
    · have H := ite_f H q13
      refine J.run b_A_allows_12_2 k_A_allows_12_2 rfl (show J w (d + 4) m_A_allows (n0, z0, some (.int z.1), mk c z.2) 14 [some (.ref 74), some (.int x1), some (.ref 80), none] [.int (2 : Int32), .int x1] (mk c S) from ?_)
      obtain ⟨r14, S15, h16, H⟩ := bd_e H
      refine J.callSn (y := m_X_isUnder) (av := [.int x1, .int (2 : Int32)]) (rest := []) l_A_34 d_A_allows_14 (c_X_isUnder w (d + 2) c  S x1 (2 : Int32) h16) rfl (Nat.le_of_ble_eq_true rfl) ⟨Nat.le_refl _, Nat.le_refl _⟩ (show J w (d + 4) m_A_allows (n0, z0, some (.int z.1), mk c z.2) 17 [some (.ref 74), some (.int x1), some (.ref 80), none] [.int r14] (mk c S15) from ?_)
      refine J.zeq (tgt := 24) d_A_allows_17 rfl (fun q17 => ?_) (fun q17 => ?_)
      · have H := ite_t H q17
        refine J.run b_A_allows_24_1 k_A_allows_24_1 rfl (show J w (d + 4) m_A_allows (n0, z0, some (.int z.1), mk c z.2) 25 [some (.ref 74), some (.int x1), some (.ref 80), none] [.int (0 : Int32)] (mk c S15) from ?_)
        obtain rfl := some_e H
        exact J.nret d_A_allows_25 rfl rfl rfl
      · have H := ite_f H q17
        refine J.run b_A_allows_20_1 k_A_allows_20_1 rfl (show J w (d + 4) m_A_allows (n0, z0, some (.int z.1), mk c z.2) 21 [some (.ref 74), some (.int x1), some (.ref 80), none] [.int (1 : Int32)] (mk c S15) from ?_)
        refine J.goto (tgt := 25) d_A_allows_21 rfl ?_
        obtain rfl := some_e H
        exact J.nret d_A_allows_25 rfl rfl rfl
def b_T_mayGo_0_3 : List Ins := [(.aload_n 0, 0, 0, 0), (.iload_n 1, 0, 0, 0), (.iload_n 2, 0, 0, 0)]
theorem k_T_mayGo_0_3 : bok m_T_mayGo 0 b_T_mayGo_0_3 = true := by decide +kernel
def b_T_mayGo_6_3 : List Ins := [(.istore 4, 0, 0, 0), (.iload 4, 0, 0, 0), (.iconst (-1), 0, 0, 0)]
theorem k_T_mayGo_6_3 : bok m_T_mayGo 6 b_T_mayGo_6_3 = true := by decide +kernel
def b_T_mayGo_32_1 : List Ins := [(.iconst (0), 0, 0, 0)]
theorem k_T_mayGo_32_1 : bok m_T_mayGo 32 b_T_mayGo_32_1 = true := by decide +kernel
def b_T_mayGo_14_2 : List Ins := [(.aload_n 0, 0, 0, 0), (.iload_n 1, 0, 0, 0)]
theorem k_T_mayGo_14_2 : bok m_T_mayGo 14 b_T_mayGo_14_2 = true := by decide +kernel
def b_T_mayGo_19_1 : List Ins := [(.iload_n 3, 0, 0, 0)]
theorem k_T_mayGo_19_1 : bok m_T_mayGo 19 b_T_mayGo_19_1 = true := by decide +kernel
def b_T_mayGo_23_2 : List Ins := [(.aload_n 0, 0, 0, 0), (.iload_n 2, 0, 0, 0)]
theorem k_T_mayGo_23_2 : bok m_T_mayGo 23 b_T_mayGo_23_2 = true := by decide +kernel
def b_T_mayGo_28_1 : List Ins := [(.iload_n 3, 0, 0, 0)]
theorem k_T_mayGo_28_1 : bok m_T_mayGo 28 b_T_mayGo_28_1 = true := by decide +kernel
def b_T_mayGo_34_2 : List Ins := [(.iload 4, 0, 0, 0), (.iconst (3), 0, 0, 0)]
theorem k_T_mayGo_34_2 : bok m_T_mayGo 34 b_T_mayGo_34_2 = true := by decide +kernel
def b_T_mayGo_46_5 : List Ins := [(.aload_n 0, 0, 0, 0), (.getfield 29, 1, 4, 2), (.iconst (0), 0, 0, 0), (.aload_n 0, 0, 0, 0), (.iload_n 2, 0, 0, 0)]
theorem k_T_mayGo_46_5 : bok m_T_mayGo 46 b_T_mayGo_46_5 = true := by decide +kernel
def b_T_mayGo_56_6 : List Ins := [(.iastore, 0, 0, 0), (.aload_n 0, 0, 0, 0), (.getfield 29, 1, 4, 2), (.iconst (1), 0, 0, 0), (.aload_n 0, 0, 0, 0), (.iload_n 1, 0, 0, 0)]
theorem k_T_mayGo_56_6 : bok m_T_mayGo 56 b_T_mayGo_56_6 = true := by decide +kernel
def b_T_mayGo_67_6 : List Ins := [(.iastore, 0, 0, 0), (.aload_n 0, 0, 0, 0), (.getfield 29, 1, 4, 2), (.iconst (2), 0, 0, 0), (.aload_n 0, 0, 0, 0), (.iload_n 2, 0, 0, 0)]
theorem k_T_mayGo_67_6 : bok m_T_mayGo 67 b_T_mayGo_67_6 = true := by decide +kernel
def b_T_mayGo_78_17 : List Ins := [(.iastore, 0, 0, 0), (.aload_n 0, 0, 0, 0), (.getfield 29, 1, 4, 2), (.iconst (3), 0, 0, 0), (.aload_n 0, 0, 0, 0), (.getfield 81, 1, 8, 0), (.iastore, 0, 0, 0), (.aload_n 0, 0, 0, 0), (.getfield 29, 1, 4, 2), (.iconst (4), 0, 0, 0), (.iload_n 3, 0, 0, 0), (.iastore, 0, 0, 0), (.aload_n 0, 0, 0, 0), (.getfield 29, 1, 4, 2), (.iconst (5), 0, 0, 0), (.aload_n 0, 0, 0, 0), (.iload_n 1, 0, 0, 0)]
theorem k_T_mayGo_78_17 : bok m_T_mayGo 78 b_T_mayGo_78_17 = true := by decide +kernel
def b_T_mayGo_106_6 : List Ins := [(.iastore, 0, 0, 0), (.aload_n 0, 0, 0, 0), (.getfield 25, 1, 3, 2), (.iload 4, 0, 0, 0), (.aload_n 0, 0, 0, 0), (.getfield 29, 1, 4, 2)]
theorem k_T_mayGo_106_6 : bok m_T_mayGo 106 b_T_mayGo_106_6 = true := by decide +kernel
def b_T_mayGo_40_1 : List Ins := [(.iload_n 3, 0, 0, 0)]
theorem k_T_mayGo_40_1 : bok m_T_mayGo 40 b_T_mayGo_40_1 = true := by decide +kernel
def b_T_mayGo_44_1 : List Ins := [(.iconst (0), 0, 0, 0)]
theorem k_T_mayGo_44_1 : bok m_T_mayGo 44 b_T_mayGo_44_1 = true := by decide +kernel
theorem d_T_mayGo_3 : decode m_T_mayGo.2.1 3 = .ok (.invokevirtual 71, 3) := by decide +kernel
theorem d_T_mayGo_11 : decode m_T_mayGo.2.1 11 = .ok (.if_icmp .eq (21), 3) := by decide +kernel
theorem d_T_mayGo_33 : decode m_T_mayGo.2.1 33 = .ok (.ireturn, 1) := by decide +kernel
theorem d_T_mayGo_16 : decode m_T_mayGo.2.1 16 = .ok (.invokevirtual 53, 3) := by decide +kernel
theorem d_T_mayGo_20 : decode m_T_mayGo.2.1 20 = .ok (.if_icmp .lt (12), 3) := by decide +kernel
theorem d_T_mayGo_25 : decode m_T_mayGo.2.1 25 = .ok (.invokevirtual 53, 3) := by decide +kernel
theorem d_T_mayGo_29 : decode m_T_mayGo.2.1 29 = .ok (.if_icmp .ge (5), 3) := by decide +kernel
theorem d_T_mayGo_37 : decode m_T_mayGo.2.1 37 = .ok (.if_icmp .ne (9), 3) := by decide +kernel
theorem d_T_mayGo_53 : decode m_T_mayGo.2.1 53 = .ok (.invokevirtual 53, 3) := by decide +kernel
theorem d_T_mayGo_64 : decode m_T_mayGo.2.1 64 = .ok (.invokevirtual 53, 3) := by decide +kernel
theorem d_T_mayGo_75 : decode m_T_mayGo.2.1 75 = .ok (.invokevirtual 78, 3) := by decide +kernel
theorem d_T_mayGo_103 : decode m_T_mayGo.2.1 103 = .ok (.invokevirtual 68, 3) := by decide +kernel
theorem d_T_mayGo_117 : decode m_T_mayGo.2.1 117 = .ok (.invokevirtual 84, 3) := by decide +kernel
theorem d_T_mayGo_120 : decode m_T_mayGo.2.1 120 = .ok (.ireturn, 1) := by decide +kernel
theorem d_T_mayGo_41 : decode m_T_mayGo.2.1 41 = .ok (.ifCond .le (5), 3) := by decide +kernel
theorem d_T_mayGo_45 : decode m_T_mayGo.2.1 45 = .ok (.ireturn, 1) := by decide +kernel
def f_T_mayGo  (S : hs) (x1 : Int32) (x2 : Int32) (x3 : Int32) : Option (Int32 × hs) := bd (f_T_kindOf  S x1 x2) fun r1 S2 => (if r1 = (-1 : Int32) then some ((0 : Int32), S2) else bd (f_T_wideOf  S2 x1) fun r5 S6 => (if r5 < x3 then some ((0 : Int32), S6) else bd (f_T_wideOf  S6 x2) fun r9 S10 => (if x3 ≤ r9 then (if r1 = (3 : Int32) then (if x3 ≤ 0 then bd (f_T_wideOf  S10 x2) fun r31 S32 => bd (f_T_wideOf  (uI S32 80 0 r31) x1) fun r34 S35 => bd (f_T_longOf  (uI S35 80 1 r34) x2) fun r37 S38 => bd (f_T_endOf  (uI (uI (uI S38 80 2 r37) 80 3 (gI (uI S38 80 2 r37) 34 8)) 80 4 x3) x1) fun r40 S41 => bd (f_A_allows_80  (uI S41 80 5 r40) r1) fun r43 S44 => ck (isB r43) (some (r43, S44)) else some ((0 : Int32), S10)) else bd (f_T_wideOf  S10 x2) fun r14 S15 => bd (f_T_wideOf  (uI S15 80 0 r14) x1) fun r17 S18 => bd (f_T_longOf  (uI S18 80 1 r17) x2) fun r20 S21 => bd (f_T_endOf  (uI (uI (uI S21 80 2 r20) 80 3 (gI (uI S21 80 2 r20) 34 8)) 80 4 x3) x1) fun r23 S24 => bd (f_A_allows_80  (uI S24 80 5 r23) r1) fun r26 S27 => ck (isB r26) (some (r26, S27))) else some ((0 : Int32), S10))))
theorem c_T_mayGo (w : Wd) (d : Nat) (c : cx)   (S : hs) (x1 : Int32) (x2 : Int32) (x3 : Int32)  {z : Int32 × hs} (H : f_T_mayGo S x1 x2 x3 = some z) : Cl w (d + 5) m_T_mayGo [.ref 34, .int x1, .int x2, .int x3] (mk c S) (some (.int z.1)) (mk c z.2) := by
  refine Cl.of (Nat.le_refl _) (Nat.le_refl _) (by decide +kernel) (Nat.le_of_ble_eq_true rfl) ?_
  unfold f_T_mayGo at H
  generalize hN (mk c S) = n0
  generalize hZ (mk c S) = z0
  show J w (d + 5) m_T_mayGo (n0, z0, some (.int z.1), mk c z.2) 0 [some (.ref 34), some (.int x1), some (.int x2), some (.int x3), none] [] (mk c S)
  refine J.run b_T_mayGo_0_3 k_T_mayGo_0_3 rfl (show J w (d + 5) m_T_mayGo (n0, z0, some (.int z.1), mk c z.2) 3 [some (.ref 34), some (.int x1), some (.int x2), some (.int x3), none] [.int x2, .int x1, .ref 34] (mk c S) from ?_)
  obtain ⟨r1, S2, h3, H⟩ := bd_e H
  refine J.callV (y := m_T_kindOf) (av := [.int x1, .int x2]) (rest := []) (q := 34) l_T_71 d_T_mayGo_3 (isC_st rfl rfl) (c_T_kindOf w (d + 1) c  S x1 x2 h3) rfl (Nat.le_of_ble_eq_true rfl) ⟨Nat.le_refl _, Nat.le_refl _⟩ (show J w (d + 5) m_T_mayGo (n0, z0, some (.int z.1), mk c z.2) 6 [some (.ref 34), some (.int x1), some (.int x2), some (.int x3), none] [.int r1] (mk c S2) from ?_)
  refine J.run b_T_mayGo_6_3 k_T_mayGo_6_3 rfl (show J w (d + 5) m_T_mayGo (n0, z0, some (.int z.1), mk c z.2) 11 [some (.ref 34), some (.int x1), some (.int x2), some (.int x3), some (.int r1)] [.int (-1 : Int32), .int r1] (mk c S2) from ?_)
  refine J.ceq (tgt := 32) d_T_mayGo_11 rfl (fun q4 => ?_) (fun q4 => ?_)
  · have H := ite_t H q4
    refine J.run b_T_mayGo_32_1 k_T_mayGo_32_1 rfl (show J w (d + 5) m_T_mayGo (n0, z0, some (.int z.1), mk c z.2) 33 [some (.ref 34), some (.int x1), some (.int x2), some (.int x3), some (.int r1)] [.int (0 : Int32)] (mk c S2) from ?_)
    obtain rfl := some_e H
    exact J.nret d_T_mayGo_33 rfl rfl rfl
  · have H := ite_f H q4
    refine J.run b_T_mayGo_14_2 k_T_mayGo_14_2 rfl (show J w (d + 5) m_T_mayGo (n0, z0, some (.int z.1), mk c z.2) 16 [some (.ref 34), some (.int x1), some (.int x2), some (.int x3), some (.int r1)] [.int x1, .ref 34] (mk c S2) from ?_)
    obtain ⟨r5, S6, h7, H⟩ := bd_e H
    refine J.callV (y := m_T_wideOf) (av := [.int x1]) (rest := []) (q := 34) l_T_53 d_T_mayGo_16 (isC_st rfl rfl) (c_T_wideOf w (d + 2) c  S2 x1 h7) rfl (Nat.le_of_ble_eq_true rfl) ⟨Nat.le_refl _, Nat.le_refl _⟩ (show J w (d + 5) m_T_mayGo (n0, z0, some (.int z.1), mk c z.2) 19 [some (.ref 34), some (.int x1), some (.int x2), some (.int x3), some (.int r1)] [.int r5] (mk c S6) from ?_)
    refine J.run b_T_mayGo_19_1 k_T_mayGo_19_1 rfl (show J w (d + 5) m_T_mayGo (n0, z0, some (.int z.1), mk c z.2) 20 [some (.ref 34), some (.int x1), some (.int x2), some (.int x3), some (.int r1)] [.int x3, .int r5] (mk c S6) from ?_)
    refine J.clt (tgt := 32) d_T_mayGo_20 rfl (fun q8 => ?_) (fun q8 => ?_)
    · have H := ite_t H q8
      refine J.run b_T_mayGo_32_1 k_T_mayGo_32_1 rfl (show J w (d + 5) m_T_mayGo (n0, z0, some (.int z.1), mk c z.2) 33 [some (.ref 34), some (.int x1), some (.int x2), some (.int x3), some (.int r1)] [.int (0 : Int32)] (mk c S6) from ?_)
      obtain rfl := some_e H
      exact J.nret d_T_mayGo_33 rfl rfl rfl
    · have H := ite_f H q8
      refine J.run b_T_mayGo_23_2 k_T_mayGo_23_2 rfl (show J w (d + 5) m_T_mayGo (n0, z0, some (.int z.1), mk c z.2) 25 [some (.ref 34), some (.int x1), some (.int x2), some (.int x3), some (.int r1)] [.int x2, .ref 34] (mk c S6) from ?_)
      obtain ⟨r9, S10, h11, H⟩ := bd_e H
      refine J.callV (y := m_T_wideOf) (av := [.int x2]) (rest := []) (q := 34) l_T_53 d_T_mayGo_25 (isC_st rfl rfl) (c_T_wideOf w (d + 2) c  S6 x2 h11) rfl (Nat.le_of_ble_eq_true rfl) ⟨Nat.le_refl _, Nat.le_refl _⟩ (show J w (d + 5) m_T_mayGo (n0, z0, some (.int z.1), mk c z.2) 28 [some (.ref 34), some (.int x1), some (.int x2), some (.int x3), some (.int r1)] [.int r9] (mk c S10) from ?_)
      refine J.run b_T_mayGo_28_1 k_T_mayGo_28_1 rfl (show J w (d + 5) m_T_mayGo (n0, z0, some (.int z.1), mk c z.2) 29 [some (.ref 34), some (.int x1), some (.int x2), some (.int x3), some (.int r1)] [.int x3, .int r9] (mk c S10) from ?_)
      refine J.cge (tgt := 34) d_T_mayGo_29 rfl (fun q12 => ?_) (fun q12 => ?_)
      · have H := ite_t H q12
        refine J.run b_T_mayGo_34_2 k_T_mayGo_34_2 rfl (show J w (d + 5) m_T_mayGo (n0, z0, some (.int z.1), mk c z.2) 37 [some (.ref 34), some (.int x1), some (.int x2), some (.int x3), some (.int r1)] [.int (3 : Int32), .int r1] (mk c S10) from ?_)
        refine J.cne (tgt := 46) d_T_mayGo_37 rfl (fun q13 => ?_) (fun q13 => ?_)
        · have H := ite_f H q13
          refine J.run b_T_mayGo_46_5 k_T_mayGo_46_5 rfl (And.intro (okO_st (S := S10) rfl) (show J w (d + 5) m_T_mayGo (n0, z0, some (.int z.1), mk c z.2) 53 [some (.ref 34), some (.int x1), some (.int x2), some (.int x3), some (.int r1)] [.int x2, .ref 34, .int (0 : Int32), .ref 80] (mk c S10) from ?_))
          obtain ⟨r14, S15, h16, H⟩ := bd_e H
          refine J.callV (y := m_T_wideOf) (av := [.int x2]) (rest := [.int (0 : Int32), .ref 80]) (q := 34) l_T_53 d_T_mayGo_53 (isC_st rfl rfl) (c_T_wideOf w (d + 2) c  S10 x2 h16) rfl (Nat.le_of_ble_eq_true rfl) ⟨Nat.le_refl _, Nat.le_refl _⟩ (show J w (d + 5) m_T_mayGo (n0, z0, some (.int z.1), mk c z.2) 56 [some (.ref 34), some (.int x1), some (.int x2), some (.int x3), some (.int r1)] [.int r14, .int (0 : Int32), .ref 80] (mk c S15) from ?_)
          refine J.run b_T_mayGo_56_6 k_T_mayGo_56_6 rfl (And.intro (okB_st (S := S15) (n := 6) rfl rfl) (And.intro (okO_st (S := (uI S15 80 0 r14)) rfl) (show J w (d + 5) m_T_mayGo (n0, z0, some (.int z.1), mk c z.2) 64 [some (.ref 34), some (.int x1), some (.int x2), some (.int x3), some (.int r1)] [.int x1, .ref 34, .int (1 : Int32), .ref 80] (mk c (uI S15 80 0 r14)) from ?_)))
          obtain ⟨r17, S18, h19, H⟩ := bd_e H
          refine J.callV (y := m_T_wideOf) (av := [.int x1]) (rest := [.int (1 : Int32), .ref 80]) (q := 34) l_T_53 d_T_mayGo_64 (isC_st rfl rfl) (c_T_wideOf w (d + 2) c  (uI S15 80 0 r14) x1 h19) rfl (Nat.le_of_ble_eq_true rfl) ⟨Nat.le_refl _, Nat.le_refl _⟩ (show J w (d + 5) m_T_mayGo (n0, z0, some (.int z.1), mk c z.2) 67 [some (.ref 34), some (.int x1), some (.int x2), some (.int x3), some (.int r1)] [.int r17, .int (1 : Int32), .ref 80] (mk c S18) from ?_)
          refine J.run b_T_mayGo_67_6 k_T_mayGo_67_6 rfl (And.intro (okB_st (S := S18) (n := 6) rfl rfl) (And.intro (okO_st (S := (uI S18 80 1 r17)) rfl) (show J w (d + 5) m_T_mayGo (n0, z0, some (.int z.1), mk c z.2) 75 [some (.ref 34), some (.int x1), some (.int x2), some (.int x3), some (.int r1)] [.int x2, .ref 34, .int (2 : Int32), .ref 80] (mk c (uI S18 80 1 r17)) from ?_)))
          obtain ⟨r20, S21, h22, H⟩ := bd_e H
          refine J.callV (y := m_T_longOf) (av := [.int x2]) (rest := [.int (2 : Int32), .ref 80]) (q := 34) l_T_78 d_T_mayGo_75 (isC_st rfl rfl) (c_T_longOf w (d + 2) c  (uI S18 80 1 r17) x2 h22) rfl (Nat.le_of_ble_eq_true rfl) ⟨Nat.le_refl _, Nat.le_refl _⟩ (show J w (d + 5) m_T_mayGo (n0, z0, some (.int z.1), mk c z.2) 78 [some (.ref 34), some (.int x1), some (.int x2), some (.int x3), some (.int r1)] [.int r20, .int (2 : Int32), .ref 80] (mk c S21) from ?_)
          refine J.run b_T_mayGo_78_17 k_T_mayGo_78_17 rfl (And.intro (okB_st (S := S21) (n := 6) rfl rfl) (And.intro (okO_st (S := (uI S21 80 2 r20)) rfl) (And.intro (okO_st (S := (uI S21 80 2 r20)) rfl) (And.intro (okB_st (S := (uI S21 80 2 r20)) (n := 6) rfl rfl) (And.intro (okO_st (S := (uI (uI S21 80 2 r20) 80 3 (gI (uI S21 80 2 r20) 34 8))) rfl) (And.intro (okB_st (S := (uI (uI S21 80 2 r20) 80 3 (gI (uI S21 80 2 r20) 34 8))) (n := 6) rfl rfl) (And.intro (okO_st (S := (uI (uI (uI S21 80 2 r20) 80 3 (gI (uI S21 80 2 r20) 34 8)) 80 4 x3)) rfl) (show J w (d + 5) m_T_mayGo (n0, z0, some (.int z.1), mk c z.2) 103 [some (.ref 34), some (.int x1), some (.int x2), some (.int x3), some (.int r1)] [.int x1, .ref 34, .int (5 : Int32), .ref 80] (mk c (uI (uI (uI S21 80 2 r20) 80 3 (gI (uI S21 80 2 r20) 34 8)) 80 4 x3)) from ?_))))))))
          obtain ⟨r23, S24, h25, H⟩ := bd_e H
          refine J.callV (y := m_T_endOf) (av := [.int x1]) (rest := [.int (5 : Int32), .ref 80]) (q := 34) l_T_68 d_T_mayGo_103 (isC_st rfl rfl) (c_T_endOf w (d + 2) c  (uI (uI (uI S21 80 2 r20) 80 3 (gI (uI S21 80 2 r20) 34 8)) 80 4 x3) x1 h25) rfl (Nat.le_of_ble_eq_true rfl) ⟨Nat.le_refl _, Nat.le_refl _⟩ (show J w (d + 5) m_T_mayGo (n0, z0, some (.int z.1), mk c z.2) 106 [some (.ref 34), some (.int x1), some (.int x2), some (.int x3), some (.int r1)] [.int r23, .int (5 : Int32), .ref 80] (mk c S24) from ?_)
          refine J.run b_T_mayGo_106_6 k_T_mayGo_106_6 rfl (And.intro (okB_st (S := S24) (n := 6) rfl rfl) (And.intro (okO_st (S := (uI S24 80 5 r23)) rfl) (And.intro (okO_st (S := (uI S24 80 5 r23)) rfl) (show J w (d + 5) m_T_mayGo (n0, z0, some (.int z.1), mk c z.2) 117 [some (.ref 34), some (.int x1), some (.int x2), some (.int x3), some (.int r1)] [.ref 80, .int r1, .ref 74] (mk c (uI S24 80 5 r23)) from ?_))))
          obtain ⟨r26, S27, h28, H⟩ := bd_e H
          refine J.callV (y := m_A_allows) (av := [.int r1, .ref 80]) (rest := []) (q := 74) l_T_84 d_T_mayGo_117 (isC_st rfl rfl) (c_A_allows_80 w (d + 0) c  (uI S24 80 5 r23) r1 h28) rfl (Nat.le_of_ble_eq_true rfl) ⟨Nat.le_refl _, Nat.le_refl _⟩ (show J w (d + 5) m_T_mayGo (n0, z0, some (.int z.1), mk c z.2) 120 [some (.ref 34), some (.int x1), some (.int x2), some (.int x3), some (.int r1)] [.int r26] (mk c S27) from ?_)
          obtain ⟨g29, H⟩ := ck_e H
          obtain rfl := some_e H
          exact J.nret d_T_mayGo_120 rfl (isB_n g29) rfl
        · have H := ite_t H q13
          refine J.run b_T_mayGo_40_1 k_T_mayGo_40_1 rfl (show J w (d + 5) m_T_mayGo (n0, z0, some (.int z.1), mk c z.2) 41 [some (.ref 34), some (.int x1), some (.int x2), some (.int x3), some (.int r1)] [.int x3] (mk c S10) from ?_)
          refine J.zle (tgt := 46) d_T_mayGo_41 rfl (fun q30 => ?_) (fun q30 => ?_)
          · have H := ite_t H q30
            refine J.run b_T_mayGo_46_5 k_T_mayGo_46_5 rfl (And.intro (okO_st (S := S10) rfl) (show J w (d + 5) m_T_mayGo (n0, z0, some (.int z.1), mk c z.2) 53 [some (.ref 34), some (.int x1), some (.int x2), some (.int x3), some (.int r1)] [.int x2, .ref 34, .int (0 : Int32), .ref 80] (mk c S10) from ?_))
            obtain ⟨r31, S32, h33, H⟩ := bd_e H
            refine J.callV (y := m_T_wideOf) (av := [.int x2]) (rest := [.int (0 : Int32), .ref 80]) (q := 34) l_T_53 d_T_mayGo_53 (isC_st rfl rfl) (c_T_wideOf w (d + 2) c  S10 x2 h33) rfl (Nat.le_of_ble_eq_true rfl) ⟨Nat.le_refl _, Nat.le_refl _⟩ (show J w (d + 5) m_T_mayGo (n0, z0, some (.int z.1), mk c z.2) 56 [some (.ref 34), some (.int x1), some (.int x2), some (.int x3), some (.int r1)] [.int r31, .int (0 : Int32), .ref 80] (mk c S32) from ?_)
            refine J.run b_T_mayGo_56_6 k_T_mayGo_56_6 rfl (And.intro (okB_st (S := S32) (n := 6) rfl rfl) (And.intro (okO_st (S := (uI S32 80 0 r31)) rfl) (show J w (d + 5) m_T_mayGo (n0, z0, some (.int z.1), mk c z.2) 64 [some (.ref 34), some (.int x1), some (.int x2), some (.int x3), some (.int r1)] [.int x1, .ref 34, .int (1 : Int32), .ref 80] (mk c (uI S32 80 0 r31)) from ?_)))
            obtain ⟨r34, S35, h36, H⟩ := bd_e H
            refine J.callV (y := m_T_wideOf) (av := [.int x1]) (rest := [.int (1 : Int32), .ref 80]) (q := 34) l_T_53 d_T_mayGo_64 (isC_st rfl rfl) (c_T_wideOf w (d + 2) c  (uI S32 80 0 r31) x1 h36) rfl (Nat.le_of_ble_eq_true rfl) ⟨Nat.le_refl _, Nat.le_refl _⟩ (show J w (d + 5) m_T_mayGo (n0, z0, some (.int z.1), mk c z.2) 67 [some (.ref 34), some (.int x1), some (.int x2), some (.int x3), some (.int r1)] [.int r34, .int (1 : Int32), .ref 80] (mk c S35) from ?_)
            refine J.run b_T_mayGo_67_6 k_T_mayGo_67_6 rfl (And.intro (okB_st (S := S35) (n := 6) rfl rfl) (And.intro (okO_st (S := (uI S35 80 1 r34)) rfl) (show J w (d + 5) m_T_mayGo (n0, z0, some (.int z.1), mk c z.2) 75 [some (.ref 34), some (.int x1), some (.int x2), some (.int x3), some (.int r1)] [.int x2, .ref 34, .int (2 : Int32), .ref 80] (mk c (uI S35 80 1 r34)) from ?_)))
            obtain ⟨r37, S38, h39, H⟩ := bd_e H
            refine J.callV (y := m_T_longOf) (av := [.int x2]) (rest := [.int (2 : Int32), .ref 80]) (q := 34) l_T_78 d_T_mayGo_75 (isC_st rfl rfl) (c_T_longOf w (d + 2) c  (uI S35 80 1 r34) x2 h39) rfl (Nat.le_of_ble_eq_true rfl) ⟨Nat.le_refl _, Nat.le_refl _⟩ (show J w (d + 5) m_T_mayGo (n0, z0, some (.int z.1), mk c z.2) 78 [some (.ref 34), some (.int x1), some (.int x2), some (.int x3), some (.int r1)] [.int r37, .int (2 : Int32), .ref 80] (mk c S38) from ?_)
            refine J.run b_T_mayGo_78_17 k_T_mayGo_78_17 rfl (And.intro (okB_st (S := S38) (n := 6) rfl rfl) (And.intro (okO_st (S := (uI S38 80 2 r37)) rfl) (And.intro (okO_st (S := (uI S38 80 2 r37)) rfl) (And.intro (okB_st (S := (uI S38 80 2 r37)) (n := 6) rfl rfl) (And.intro (okO_st (S := (uI (uI S38 80 2 r37) 80 3 (gI (uI S38 80 2 r37) 34 8))) rfl) (And.intro (okB_st (S := (uI (uI S38 80 2 r37) 80 3 (gI (uI S38 80 2 r37) 34 8))) (n := 6) rfl rfl) (And.intro (okO_st (S := (uI (uI (uI S38 80 2 r37) 80 3 (gI (uI S38 80 2 r37) 34 8)) 80 4 x3)) rfl) (show J w (d + 5) m_T_mayGo (n0, z0, some (.int z.1), mk c z.2) 103 [some (.ref 34), some (.int x1), some (.int x2), some (.int x3), some (.int r1)] [.int x1, .ref 34, .int (5 : Int32), .ref 80] (mk c (uI (uI (uI S38 80 2 r37) 80 3 (gI (uI S38 80 2 r37) 34 8)) 80 4 x3)) from ?_))))))))
            obtain ⟨r40, S41, h42, H⟩ := bd_e H
            refine J.callV (y := m_T_endOf) (av := [.int x1]) (rest := [.int (5 : Int32), .ref 80]) (q := 34) l_T_68 d_T_mayGo_103 (isC_st rfl rfl) (c_T_endOf w (d + 2) c  (uI (uI (uI S38 80 2 r37) 80 3 (gI (uI S38 80 2 r37) 34 8)) 80 4 x3) x1 h42) rfl (Nat.le_of_ble_eq_true rfl) ⟨Nat.le_refl _, Nat.le_refl _⟩ (show J w (d + 5) m_T_mayGo (n0, z0, some (.int z.1), mk c z.2) 106 [some (.ref 34), some (.int x1), some (.int x2), some (.int x3), some (.int r1)] [.int r40, .int (5 : Int32), .ref 80] (mk c S41) from ?_)
            refine J.run b_T_mayGo_106_6 k_T_mayGo_106_6 rfl (And.intro (okB_st (S := S41) (n := 6) rfl rfl) (And.intro (okO_st (S := (uI S41 80 5 r40)) rfl) (And.intro (okO_st (S := (uI S41 80 5 r40)) rfl) (show J w (d + 5) m_T_mayGo (n0, z0, some (.int z.1), mk c z.2) 117 [some (.ref 34), some (.int x1), some (.int x2), some (.int x3), some (.int r1)] [.ref 80, .int r1, .ref 74] (mk c (uI S41 80 5 r40)) from ?_))))
            obtain ⟨r43, S44, h45, H⟩ := bd_e H
            refine J.callV (y := m_A_allows) (av := [.int r1, .ref 80]) (rest := []) (q := 74) l_T_84 d_T_mayGo_117 (isC_st rfl rfl) (c_A_allows_80 w (d + 0) c  (uI S41 80 5 r40) r1 h45) rfl (Nat.le_of_ble_eq_true rfl) ⟨Nat.le_refl _, Nat.le_refl _⟩ (show J w (d + 5) m_T_mayGo (n0, z0, some (.int z.1), mk c z.2) 120 [some (.ref 34), some (.int x1), some (.int x2), some (.int x3), some (.int r1)] [.int r43] (mk c S44) from ?_)
            obtain ⟨g46, H⟩ := ck_e H
            obtain rfl := some_e H
            exact J.nret d_T_mayGo_120 rfl (isB_n g46) rfl
          · have H := ite_f H q30
            refine J.run b_T_mayGo_44_1 k_T_mayGo_44_1 rfl (show J w (d + 5) m_T_mayGo (n0, z0, some (.int z.1), mk c z.2) 45 [some (.ref 34), some (.int x1), some (.int x2), some (.int x3), some (.int r1)] [.int (0 : Int32)] (mk c S10) from ?_)
            obtain rfl := some_e H
            exact J.nret d_T_mayGo_45 rfl rfl rfl
      · have H := ite_f H q12
        refine J.run b_T_mayGo_32_1 k_T_mayGo_32_1 rfl (show J w (d + 5) m_T_mayGo (n0, z0, some (.int z.1), mk c z.2) 33 [some (.ref 34), some (.int x1), some (.int x2), some (.int x3), some (.int r1)] [.int (0 : Int32)] (mk c S10) from ?_)
        obtain rfl := some_e H
        exact J.nret d_T_mayGo_33 rfl rfl rfl
def b_T_hasCourseFor_0_2 : List Ins := [(.aload_n 0, 0, 0, 0), (.iload_n 1, 0, 0, 0)]
theorem k_T_hasCourseFor_0_2 : bok m_T_hasCourseFor 0 b_T_hasCourseFor_0_2 = true := by decide +kernel
def b_T_hasCourseFor_21_1 : List Ins := [(.iconst (0), 0, 0, 0)]
theorem k_T_hasCourseFor_21_1 : bok m_T_hasCourseFor 21 b_T_hasCourseFor_21_1 = true := by decide +kernel
def b_T_hasCourseFor_8_2 : List Ins := [(.aload_n 0, 0, 0, 0), (.iload_n 1, 0, 0, 0)]
theorem k_T_hasCourseFor_8_2 : bok m_T_hasCourseFor 8 b_T_hasCourseFor_8_2 = true := by decide +kernel
def b_T_hasCourseFor_13_1 : List Ins := [(.iload_n 2, 0, 0, 0)]
theorem k_T_hasCourseFor_13_1 : bok m_T_hasCourseFor 13 b_T_hasCourseFor_13_1 = true := by decide +kernel
def b_T_hasCourseFor_17_1 : List Ins := [(.iconst (1), 0, 0, 0)]
theorem k_T_hasCourseFor_17_1 : bok m_T_hasCourseFor 17 b_T_hasCourseFor_17_1 = true := by decide +kernel
theorem d_T_hasCourseFor_2 : decode m_T_hasCourseFor.2.1 2 = .ok (.invokevirtual 50, 3) := by decide +kernel
theorem d_T_hasCourseFor_5 : decode m_T_hasCourseFor.2.1 5 = .ok (.ifCond .eq (16), 3) := by decide +kernel
theorem d_T_hasCourseFor_22 : decode m_T_hasCourseFor.2.1 22 = .ok (.ireturn, 1) := by decide +kernel
theorem d_T_hasCourseFor_10 : decode m_T_hasCourseFor.2.1 10 = .ok (.invokevirtual 53, 3) := by decide +kernel
theorem d_T_hasCourseFor_14 : decode m_T_hasCourseFor.2.1 14 = .ok (.if_icmp .lt (7), 3) := by decide +kernel
theorem d_T_hasCourseFor_18 : decode m_T_hasCourseFor.2.1 18 = .ok (.goto (4), 3) := by decide +kernel
def f_T_hasCourseFor  (S : hs) (x1 : Int32) (x2 : Int32) : Option (Int32 × hs) := bd (f_T_hasCourse  S x1) fun r1 S2 => (if r1 = 0 then some ((0 : Int32), S2) else bd (f_T_wideOf  S2 x1) fun r5 S6 => (if r5 < x2 then some ((0 : Int32), S6) else some ((1 : Int32), S6)))
theorem c_T_hasCourseFor (w : Wd) (d : Nat) (c : cx)   (S : hs) (x1 : Int32) (x2 : Int32)  {z : Int32 × hs} (H : f_T_hasCourseFor S x1 x2 = some z) : Cl w (d + 4) m_T_hasCourseFor [.ref 34, .int x1, .int x2] (mk c S) (some (.int z.1)) (mk c z.2) := by
  refine Cl.of (Nat.le_refl _) (Nat.le_refl _) (by decide +kernel) (Nat.le_of_ble_eq_true rfl) ?_
  unfold f_T_hasCourseFor at H
  generalize hN (mk c S) = n0
  generalize hZ (mk c S) = z0
  show J w (d + 4) m_T_hasCourseFor (n0, z0, some (.int z.1), mk c z.2) 0 [some (.ref 34), some (.int x1), some (.int x2)] [] (mk c S)
  refine J.run b_T_hasCourseFor_0_2 k_T_hasCourseFor_0_2 rfl (show J w (d + 4) m_T_hasCourseFor (n0, z0, some (.int z.1), mk c z.2) 2 [some (.ref 34), some (.int x1), some (.int x2)] [.int x1, .ref 34] (mk c S) from ?_)
  obtain ⟨r1, S2, h3, H⟩ := bd_e H
  refine J.callV (y := m_T_hasCourse) (av := [.int x1]) (rest := []) (q := 34) l_T_50 d_T_hasCourseFor_2 (isC_st rfl rfl) (c_T_hasCourse w (d + 0) c  S x1 h3) rfl (Nat.le_of_ble_eq_true rfl) ⟨Nat.le_refl _, Nat.le_refl _⟩ (show J w (d + 4) m_T_hasCourseFor (n0, z0, some (.int z.1), mk c z.2) 5 [some (.ref 34), some (.int x1), some (.int x2)] [.int r1] (mk c S2) from ?_)
  refine J.zeq (tgt := 21) d_T_hasCourseFor_5 rfl (fun q4 => ?_) (fun q4 => ?_)
  · have H := ite_t H q4
    refine J.run b_T_hasCourseFor_21_1 k_T_hasCourseFor_21_1 rfl (show J w (d + 4) m_T_hasCourseFor (n0, z0, some (.int z.1), mk c z.2) 22 [some (.ref 34), some (.int x1), some (.int x2)] [.int (0 : Int32)] (mk c S2) from ?_)
    obtain rfl := some_e H
    exact J.nret d_T_hasCourseFor_22 rfl rfl rfl
  · have H := ite_f H q4
    refine J.run b_T_hasCourseFor_8_2 k_T_hasCourseFor_8_2 rfl (show J w (d + 4) m_T_hasCourseFor (n0, z0, some (.int z.1), mk c z.2) 10 [some (.ref 34), some (.int x1), some (.int x2)] [.int x1, .ref 34] (mk c S2) from ?_)
    obtain ⟨r5, S6, h7, H⟩ := bd_e H
    refine J.callV (y := m_T_wideOf) (av := [.int x1]) (rest := []) (q := 34) l_T_53 d_T_hasCourseFor_10 (isC_st rfl rfl) (c_T_wideOf w (d + 1) c  S2 x1 h7) rfl (Nat.le_of_ble_eq_true rfl) ⟨Nat.le_refl _, Nat.le_refl _⟩ (show J w (d + 4) m_T_hasCourseFor (n0, z0, some (.int z.1), mk c z.2) 13 [some (.ref 34), some (.int x1), some (.int x2)] [.int r5] (mk c S6) from ?_)
    refine J.run b_T_hasCourseFor_13_1 k_T_hasCourseFor_13_1 rfl (show J w (d + 4) m_T_hasCourseFor (n0, z0, some (.int z.1), mk c z.2) 14 [some (.ref 34), some (.int x1), some (.int x2)] [.int x2, .int r5] (mk c S6) from ?_)
    refine J.clt (tgt := 21) d_T_hasCourseFor_14 rfl (fun q8 => ?_) (fun q8 => ?_)
    · have H := ite_t H q8
      refine J.run b_T_hasCourseFor_21_1 k_T_hasCourseFor_21_1 rfl (show J w (d + 4) m_T_hasCourseFor (n0, z0, some (.int z.1), mk c z.2) 22 [some (.ref 34), some (.int x1), some (.int x2)] [.int (0 : Int32)] (mk c S6) from ?_)
      obtain rfl := some_e H
      exact J.nret d_T_hasCourseFor_22 rfl rfl rfl
    · have H := ite_f H q8
      refine J.run b_T_hasCourseFor_17_1 k_T_hasCourseFor_17_1 rfl (show J w (d + 4) m_T_hasCourseFor (n0, z0, some (.int z.1), mk c z.2) 18 [some (.ref 34), some (.int x1), some (.int x2)] [.int (1 : Int32)] (mk c S6) from ?_)
      refine J.goto (tgt := 22) d_T_hasCourseFor_18 rfl ?_
      obtain rfl := some_e H
      exact J.nret d_T_hasCourseFor_22 rfl rfl rfl
def b_T_addWalker_0_5 : List Ins := [(.aload_n 0, 0, 0, 0), (.getfield 40, 1, 7, 0), (.istore_n 3, 0, 0, 0), (.iload_n 3, 0, 0, 0), (.iconst (4), 0, 0, 0)]
theorem k_T_addWalker_0_5 : bok m_T_addWalker 0 b_T_addWalker_0_5 = true := by decide +kernel
def b_T_addWalker_13_28 : List Ins := [(.aload_n 0, 0, 0, 0), (.getfield 19, 1, 2, 2), (.iload_n 3, 0, 0, 0), (.aaload, 0, 0, 0), (.iconst (0), 0, 0, 0), (.iload_n 1, 0, 0, 0), (.iastore, 0, 0, 0), (.aload_n 0, 0, 0, 0), (.getfield 19, 1, 2, 2), (.iload_n 3, 0, 0, 0), (.aaload, 0, 0, 0), (.iconst (1), 0, 0, 0), (.iload_n 2, 0, 0, 0), (.iastore, 0, 0, 0), (.aload_n 0, 0, 0, 0), (.getfield 19, 1, 2, 2), (.iload_n 3, 0, 0, 0), (.aaload, 0, 0, 0), (.iconst (2), 0, 0, 0), (.iconst (0), 0, 0, 0), (.iastore, 0, 0, 0), (.aload_n 0, 0, 0, 0), (.dup, 0, 0, 0), (.getfield 40, 1, 7, 0), (.iconst (1), 0, 0, 0), (.iadd, 0, 0, 0), (.putfield 40, 1, 7, 0), (.iload_n 3, 0, 0, 0)]
theorem k_T_addWalker_13_28 : bok m_T_addWalker 13 b_T_addWalker_13_28 = true := by decide +kernel
def b_T_addWalker_10_1 : List Ins := [(.bipush (-2), 0, 0, 0)]
theorem k_T_addWalker_10_1 : bok m_T_addWalker 10 b_T_addWalker_10_1 = true := by decide +kernel
theorem d_T_addWalker_7 : decode m_T_addWalker.2.1 7 = .ok (.if_icmp .lt (6), 3) := by decide +kernel
theorem d_T_addWalker_51 : decode m_T_addWalker.2.1 51 = .ok (.ireturn, 1) := by decide +kernel
theorem d_T_addWalker_12 : decode m_T_addWalker.2.1 12 = .ok (.ireturn, 1) := by decide +kernel
def f_T_addWalker  (S : hs) (x1 : Int32) (x2 : Int32) : Option (Int32 × hs) := (if (gI S 34 7) < (4 : Int32) then ck (inb (gI S 34 7) 4) (some ((gI S 34 7), (uI (uI (uI (uI S (70 + ((gI S 34 7)).toNatClampNeg) 0 x1) (70 + ((gI S 34 7)).toNatClampNeg) 1 x2) (70 + ((gI S 34 7)).toNatClampNeg) 2 (0 : Int32)) 34 7 ((gI (uI (uI (uI S (70 + ((gI S 34 7)).toNatClampNeg) 0 x1) (70 + ((gI S 34 7)).toNatClampNeg) 1 x2) (70 + ((gI S 34 7)).toNatClampNeg) 2 (0 : Int32)) 34 7) + (1 : Int32))))) else some ((-2 : Int32), S))
theorem c_T_addWalker (w : Wd) (d : Nat) (c : cx)   (S : hs) (x1 : Int32) (x2 : Int32)  {z : Int32 × hs} (H : f_T_addWalker S x1 x2 = some z) : Cl w (d + 1) m_T_addWalker [.ref 34, .int x1, .int x2] (mk c S) (some (.int z.1)) (mk c z.2) := by
  refine Cl.of (Nat.le_refl _) (Nat.le_refl _) (by decide +kernel) (Nat.le_of_ble_eq_true rfl) ?_
  unfold f_T_addWalker at H
  generalize hN (mk c S) = n0
  generalize hZ (mk c S) = z0
  show J w (d + 1) m_T_addWalker (n0, z0, some (.int z.1), mk c z.2) 0 [some (.ref 34), some (.int x1), some (.int x2), none] [] (mk c S)
  refine J.run b_T_addWalker_0_5 k_T_addWalker_0_5 rfl (And.intro (okO_st (S := S) rfl) (show J w (d + 1) m_T_addWalker (n0, z0, some (.int z.1), mk c z.2) 7 [some (.ref 34), some (.int x1), some (.int x2), some (.int (gI S 34 7))] [.int (4 : Int32), .int (gI S 34 7)] (mk c S) from ?_))
  refine J.clt (tgt := 13) d_T_addWalker_7 rfl (fun q1 => ?_) (fun q1 => ?_)
  · have H := ite_t H q1
    obtain ⟨g2, H⟩ := ck_e H
    refine J.run b_T_addWalker_13_28 k_T_addWalker_13_28 rfl (And.intro (okO_st (S := S) rfl) (And.intro (okQ_st (S := S) (k := 23) (n := 4) rfl rfl g2) (And.intro (okB_row (S := S) (b := 70) (cnt := 4) (n := 3) rfl (inb_lt g2) rfl) (And.intro (okO_st (S := (uI S (70 + ((gI S 34 7)).toNatClampNeg) 0 x1)) rfl) (And.intro (okQ_st (S := (uI S (70 + ((gI S 34 7)).toNatClampNeg) 0 x1)) (k := 23) (n := 4) rfl rfl g2) (And.intro (okB_row (S := (uI S (70 + ((gI S 34 7)).toNatClampNeg) 0 x1)) (b := 70) (cnt := 4) (n := 3) rfl (inb_lt g2) rfl) (And.intro (okO_st (S := (uI (uI S (70 + ((gI S 34 7)).toNatClampNeg) 0 x1) (70 + ((gI S 34 7)).toNatClampNeg) 1 x2)) rfl) (And.intro (okQ_st (S := (uI (uI S (70 + ((gI S 34 7)).toNatClampNeg) 0 x1) (70 + ((gI S 34 7)).toNatClampNeg) 1 x2)) (k := 23) (n := 4) rfl rfl g2) (And.intro (okB_row (S := (uI (uI S (70 + ((gI S 34 7)).toNatClampNeg) 0 x1) (70 + ((gI S 34 7)).toNatClampNeg) 1 x2)) (b := 70) (cnt := 4) (n := 3) rfl (inb_lt g2) rfl) (And.intro (okO_st (S := (uI (uI (uI S (70 + ((gI S 34 7)).toNatClampNeg) 0 x1) (70 + ((gI S 34 7)).toNatClampNeg) 1 x2) (70 + ((gI S 34 7)).toNatClampNeg) 2 (0 : Int32))) rfl) (And.intro (okO_st (S := (uI (uI (uI S (70 + ((gI S 34 7)).toNatClampNeg) 0 x1) (70 + ((gI S 34 7)).toNatClampNeg) 1 x2) (70 + ((gI S 34 7)).toNatClampNeg) 2 (0 : Int32))) rfl) (show J w (d + 1) m_T_addWalker (n0, z0, some (.int z.1), mk c z.2) 51 [some (.ref 34), some (.int x1), some (.int x2), some (.int (gI S 34 7))] [.int (gI S 34 7)] (mk c (uI (uI (uI (uI S (70 + ((gI S 34 7)).toNatClampNeg) 0 x1) (70 + ((gI S 34 7)).toNatClampNeg) 1 x2) (70 + ((gI S 34 7)).toNatClampNeg) 2 (0 : Int32)) 34 7 ((gI (uI (uI (uI S (70 + ((gI S 34 7)).toNatClampNeg) 0 x1) (70 + ((gI S 34 7)).toNatClampNeg) 1 x2) (70 + ((gI S 34 7)).toNatClampNeg) 2 (0 : Int32)) 34 7) + (1 : Int32)))) from ?_))))))))))))
    obtain rfl := some_e H
    exact J.iret d_T_addWalker_51 rfl rfl
  · have H := ite_f H q1
    refine J.run b_T_addWalker_10_1 k_T_addWalker_10_1 rfl (show J w (d + 1) m_T_addWalker (n0, z0, some (.int z.1), mk c z.2) 12 [some (.ref 34), some (.int x1), some (.int x2), some (.int (gI S 34 7))] [.int (-2 : Int32)] (mk c S) from ?_)
    obtain rfl := some_e H
    exact J.iret d_T_addWalker_12 rfl rfl
def b_T_hasWalker_0_1 : List Ins := [(.iload_n 1, 0, 0, 0)]
theorem k_T_hasWalker_0_1 : bok m_T_hasWalker 0 b_T_hasWalker_0_1 = true := by decide +kernel
def b_T_hasWalker_21_1 : List Ins := [(.iconst (0), 0, 0, 0)]
theorem k_T_hasWalker_21_1 : bok m_T_hasWalker 21 b_T_hasWalker_21_1 = true := by decide +kernel
def b_T_hasWalker_4_3 : List Ins := [(.iload_n 1, 0, 0, 0), (.aload_n 0, 0, 0, 0), (.getfield 40, 1, 7, 0)]
theorem k_T_hasWalker_4_3 : bok m_T_hasWalker 4 b_T_hasWalker_4_3 = true := by decide +kernel
def b_T_hasWalker_12_2 : List Ins := [(.iload_n 1, 0, 0, 0), (.iconst (4), 0, 0, 0)]
theorem k_T_hasWalker_12_2 : bok m_T_hasWalker 12 b_T_hasWalker_12_2 = true := by decide +kernel
def b_T_hasWalker_17_1 : List Ins := [(.iconst (1), 0, 0, 0)]
theorem k_T_hasWalker_17_1 : bok m_T_hasWalker 17 b_T_hasWalker_17_1 = true := by decide +kernel
theorem d_T_hasWalker_1 : decode m_T_hasWalker.2.1 1 = .ok (.ifCond .lt (20), 3) := by decide +kernel
theorem d_T_hasWalker_22 : decode m_T_hasWalker.2.1 22 = .ok (.ireturn, 1) := by decide +kernel
theorem d_T_hasWalker_9 : decode m_T_hasWalker.2.1 9 = .ok (.if_icmp .ge (12), 3) := by decide +kernel
theorem d_T_hasWalker_14 : decode m_T_hasWalker.2.1 14 = .ok (.if_icmp .ge (7), 3) := by decide +kernel
theorem d_T_hasWalker_18 : decode m_T_hasWalker.2.1 18 = .ok (.goto (4), 3) := by decide +kernel
def f_T_hasWalker  (S : hs) (x1 : Int32) : Option (Int32 × hs) := (if x1 < 0 then some ((0 : Int32), S) else (if (gI S 34 7) ≤ x1 then some ((0 : Int32), S) else (if (4 : Int32) ≤ x1 then some ((0 : Int32), S) else some ((1 : Int32), S))))
theorem c_T_hasWalker (w : Wd) (d : Nat) (c : cx)   (S : hs) (x1 : Int32)  {z : Int32 × hs} (H : f_T_hasWalker S x1 = some z) : Cl w (d + 1) m_T_hasWalker [.ref 34, .int x1] (mk c S) (some (.int z.1)) (mk c z.2) := by
  refine Cl.of (Nat.le_refl _) (Nat.le_refl _) (by decide +kernel) (Nat.le_of_ble_eq_true rfl) ?_
  unfold f_T_hasWalker at H
  generalize hN (mk c S) = n0
  generalize hZ (mk c S) = z0
  show J w (d + 1) m_T_hasWalker (n0, z0, some (.int z.1), mk c z.2) 0 [some (.ref 34), some (.int x1)] [] (mk c S)
  refine J.run b_T_hasWalker_0_1 k_T_hasWalker_0_1 rfl (show J w (d + 1) m_T_hasWalker (n0, z0, some (.int z.1), mk c z.2) 1 [some (.ref 34), some (.int x1)] [.int x1] (mk c S) from ?_)
  refine J.zlt (tgt := 21) d_T_hasWalker_1 rfl (fun q1 => ?_) (fun q1 => ?_)
  · have H := ite_t H q1
    refine J.run b_T_hasWalker_21_1 k_T_hasWalker_21_1 rfl (show J w (d + 1) m_T_hasWalker (n0, z0, some (.int z.1), mk c z.2) 22 [some (.ref 34), some (.int x1)] [.int (0 : Int32)] (mk c S) from ?_)
    obtain rfl := some_e H
    exact J.nret d_T_hasWalker_22 rfl rfl rfl
  · have H := ite_f H q1
    refine J.run b_T_hasWalker_4_3 k_T_hasWalker_4_3 rfl (And.intro (okO_st (S := S) rfl) (show J w (d + 1) m_T_hasWalker (n0, z0, some (.int z.1), mk c z.2) 9 [some (.ref 34), some (.int x1)] [.int (gI S 34 7), .int x1] (mk c S) from ?_))
    refine J.cge (tgt := 21) d_T_hasWalker_9 rfl (fun q2 => ?_) (fun q2 => ?_)
    · have H := ite_t H q2
      refine J.run b_T_hasWalker_21_1 k_T_hasWalker_21_1 rfl (show J w (d + 1) m_T_hasWalker (n0, z0, some (.int z.1), mk c z.2) 22 [some (.ref 34), some (.int x1)] [.int (0 : Int32)] (mk c S) from ?_)
      obtain rfl := some_e H
      exact J.nret d_T_hasWalker_22 rfl rfl rfl
    · have H := ite_f H q2
      refine J.run b_T_hasWalker_12_2 k_T_hasWalker_12_2 rfl (show J w (d + 1) m_T_hasWalker (n0, z0, some (.int z.1), mk c z.2) 14 [some (.ref 34), some (.int x1)] [.int (4 : Int32), .int x1] (mk c S) from ?_)
      refine J.cge (tgt := 21) d_T_hasWalker_14 rfl (fun q3 => ?_) (fun q3 => ?_)
      · have H := ite_t H q3
        refine J.run b_T_hasWalker_21_1 k_T_hasWalker_21_1 rfl (show J w (d + 1) m_T_hasWalker (n0, z0, some (.int z.1), mk c z.2) 22 [some (.ref 34), some (.int x1)] [.int (0 : Int32)] (mk c S) from ?_)
        obtain rfl := some_e H
        exact J.nret d_T_hasWalker_22 rfl rfl rfl
      · have H := ite_f H q3
        refine J.run b_T_hasWalker_17_1 k_T_hasWalker_17_1 rfl (show J w (d + 1) m_T_hasWalker (n0, z0, some (.int z.1), mk c z.2) 18 [some (.ref 34), some (.int x1)] [.int (1 : Int32)] (mk c S) from ?_)
        refine J.goto (tgt := 22) d_T_hasWalker_18 rfl ?_
        obtain rfl := some_e H
        exact J.nret d_T_hasWalker_22 rfl rfl rfl
def b_T_isOneOf_0_3 : List Ins := [(.aload_n 0, 0, 0, 0), (.iload_n 1, 0, 0, 0), (.iload_n 2, 0, 0, 0)]
theorem k_T_isOneOf_0_3 : bok m_T_isOneOf 0 b_T_isOneOf_0_3 = true := by decide +kernel
def b_T_isOneOf_40_3 : List Ins := [(.iload_n 3, 0, 0, 0), (.iconst (1), 0, 0, 0), (.iand, 0, 0, 0)]
theorem k_T_isOneOf_40_3 : bok m_T_isOneOf 40 b_T_isOneOf_40_3 = true := by decide +kernel
def b_T_isOneOf_50_1 : List Ins := [(.iconst (0), 0, 0, 0)]
theorem k_T_isOneOf_50_1 : bok m_T_isOneOf 50 b_T_isOneOf_50_1 = true := by decide +kernel
def b_T_isOneOf_46_1 : List Ins := [(.iconst (1), 0, 0, 0)]
theorem k_T_isOneOf_46_1 : bok m_T_isOneOf 46 b_T_isOneOf_46_1 = true := by decide +kernel
def b_T_isOneOf_52_3 : List Ins := [(.iload_n 3, 0, 0, 0), (.iconst (2), 0, 0, 0), (.iand, 0, 0, 0)]
theorem k_T_isOneOf_52_3 : bok m_T_isOneOf 52 b_T_isOneOf_52_3 = true := by decide +kernel
def b_T_isOneOf_62_1 : List Ins := [(.iconst (0), 0, 0, 0)]
theorem k_T_isOneOf_62_1 : bok m_T_isOneOf 62 b_T_isOneOf_62_1 = true := by decide +kernel
def b_T_isOneOf_58_1 : List Ins := [(.iconst (1), 0, 0, 0)]
theorem k_T_isOneOf_58_1 : bok m_T_isOneOf 58 b_T_isOneOf_58_1 = true := by decide +kernel
def b_T_isOneOf_64_3 : List Ins := [(.iload_n 3, 0, 0, 0), (.iconst (4), 0, 0, 0), (.iand, 0, 0, 0)]
theorem k_T_isOneOf_64_3 : bok m_T_isOneOf 64 b_T_isOneOf_64_3 = true := by decide +kernel
def b_T_isOneOf_74_1 : List Ins := [(.iconst (0), 0, 0, 0)]
theorem k_T_isOneOf_74_1 : bok m_T_isOneOf 74 b_T_isOneOf_74_1 = true := by decide +kernel
def b_T_isOneOf_70_1 : List Ins := [(.iconst (1), 0, 0, 0)]
theorem k_T_isOneOf_70_1 : bok m_T_isOneOf 70 b_T_isOneOf_70_1 = true := by decide +kernel
def b_T_isOneOf_76_3 : List Ins := [(.iload_n 3, 0, 0, 0), (.bipush (8), 0, 0, 0), (.iand, 0, 0, 0)]
theorem k_T_isOneOf_76_3 : bok m_T_isOneOf 76 b_T_isOneOf_76_3 = true := by decide +kernel
def b_T_isOneOf_87_1 : List Ins := [(.iconst (0), 0, 0, 0)]
theorem k_T_isOneOf_87_1 : bok m_T_isOneOf 87 b_T_isOneOf_87_1 = true := by decide +kernel
def b_T_isOneOf_83_1 : List Ins := [(.iconst (1), 0, 0, 0)]
theorem k_T_isOneOf_83_1 : bok m_T_isOneOf 83 b_T_isOneOf_83_1 = true := by decide +kernel
def b_T_isOneOf_89_1 : List Ins := [(.iconst (0), 0, 0, 0)]
theorem k_T_isOneOf_89_1 : bok m_T_isOneOf 89 b_T_isOneOf_89_1 = true := by decide +kernel
theorem d_T_isOneOf_3 : decode m_T_isOneOf.2.1 3 = .ok (.invokevirtual 71, 3) := by decide +kernel
theorem d_T_isOneOf_6 : decode m_T_isOneOf.2.1 6 = .ok (.tableswitch (83) (1) (5) #[34, 46, 46, 58, 70], 34) := by decide +kernel
theorem d_T_isOneOf_43 : decode m_T_isOneOf.2.1 43 = .ok (.ifCond .eq (7), 3) := by decide +kernel
theorem d_T_isOneOf_51 : decode m_T_isOneOf.2.1 51 = .ok (.ireturn, 1) := by decide +kernel
theorem d_T_isOneOf_47 : decode m_T_isOneOf.2.1 47 = .ok (.goto (4), 3) := by decide +kernel
theorem d_T_isOneOf_55 : decode m_T_isOneOf.2.1 55 = .ok (.ifCond .eq (7), 3) := by decide +kernel
theorem d_T_isOneOf_63 : decode m_T_isOneOf.2.1 63 = .ok (.ireturn, 1) := by decide +kernel
theorem d_T_isOneOf_59 : decode m_T_isOneOf.2.1 59 = .ok (.goto (4), 3) := by decide +kernel
theorem d_T_isOneOf_67 : decode m_T_isOneOf.2.1 67 = .ok (.ifCond .eq (7), 3) := by decide +kernel
theorem d_T_isOneOf_75 : decode m_T_isOneOf.2.1 75 = .ok (.ireturn, 1) := by decide +kernel
theorem d_T_isOneOf_71 : decode m_T_isOneOf.2.1 71 = .ok (.goto (4), 3) := by decide +kernel
theorem d_T_isOneOf_80 : decode m_T_isOneOf.2.1 80 = .ok (.ifCond .eq (7), 3) := by decide +kernel
theorem d_T_isOneOf_88 : decode m_T_isOneOf.2.1 88 = .ok (.ireturn, 1) := by decide +kernel
theorem d_T_isOneOf_84 : decode m_T_isOneOf.2.1 84 = .ok (.goto (4), 3) := by decide +kernel
theorem d_T_isOneOf_90 : decode m_T_isOneOf.2.1 90 = .ok (.ireturn, 1) := by decide +kernel
def f_T_isOneOf  (S : hs) (x1 : Int32) (x2 : Int32) (x3 : Int32) : Option (Int32 × hs) := bd (f_T_kindOf  S x1 x2) fun r1 S2 => (if r1 = (1 : Int32) then (if (x3 &&& (1 : Int32)) = 0 then some ((0 : Int32), S2) else some ((1 : Int32), S2)) else (if r1 = (2 : Int32) then (if (x3 &&& (2 : Int32)) = 0 then some ((0 : Int32), S2) else some ((1 : Int32), S2)) else (if r1 = (3 : Int32) then (if (x3 &&& (2 : Int32)) = 0 then some ((0 : Int32), S2) else some ((1 : Int32), S2)) else (if r1 = (4 : Int32) then (if (x3 &&& (4 : Int32)) = 0 then some ((0 : Int32), S2) else some ((1 : Int32), S2)) else (if r1 = (5 : Int32) then (if (x3 &&& (8 : Int32)) = 0 then some ((0 : Int32), S2) else some ((1 : Int32), S2)) else some ((0 : Int32), S2))))))
theorem c_T_isOneOf (w : Wd) (d : Nat) (c : cx)   (S : hs) (x1 : Int32) (x2 : Int32) (x3 : Int32)  {z : Int32 × hs} (H : f_T_isOneOf S x1 x2 x3 = some z) : Cl w (d + 4) m_T_isOneOf [.ref 34, .int x1, .int x2, .int x3] (mk c S) (some (.int z.1)) (mk c z.2) := by
  refine Cl.of (Nat.le_refl _) (Nat.le_refl _) (by decide +kernel) (Nat.le_of_ble_eq_true rfl) ?_
  unfold f_T_isOneOf at H
  generalize hN (mk c S) = n0
  generalize hZ (mk c S) = z0
  show J w (d + 4) m_T_isOneOf (n0, z0, some (.int z.1), mk c z.2) 0 [some (.ref 34), some (.int x1), some (.int x2), some (.int x3)] [] (mk c S)
  refine J.run b_T_isOneOf_0_3 k_T_isOneOf_0_3 rfl (show J w (d + 4) m_T_isOneOf (n0, z0, some (.int z.1), mk c z.2) 3 [some (.ref 34), some (.int x1), some (.int x2), some (.int x3)] [.int x2, .int x1, .ref 34] (mk c S) from ?_)
  obtain ⟨r1, S2, h3, H⟩ := bd_e H
  refine J.callV (y := m_T_kindOf) (av := [.int x1, .int x2]) (rest := []) (q := 34) l_T_71 d_T_isOneOf_3 (isC_st rfl rfl) (c_T_kindOf w (d + 0) c  S x1 x2 h3) rfl (Nat.le_of_ble_eq_true rfl) ⟨Nat.le_refl _, Nat.le_refl _⟩ (show J w (d + 4) m_T_isOneOf (n0, z0, some (.int z.1), mk c z.2) 6 [some (.ref 34), some (.int x1), some (.int x2), some (.int x3)] [.int r1] (mk c S2) from ?_)
  by_cases q4 : r1 = (1 : Int32)
  · have H := ite_t H q4
    refine J.tsIn (off := 34) (tgt := 40) d_T_isOneOf_6 (by rw [q4]; decide) (by rw [q4]; decide) (by rw [q4]; rfl) rfl ?_
    refine J.run b_T_isOneOf_40_3 k_T_isOneOf_40_3 rfl (show J w (d + 4) m_T_isOneOf (n0, z0, some (.int z.1), mk c z.2) 43 [some (.ref 34), some (.int x1), some (.int x2), some (.int x3)] [.int (x3 &&& (1 : Int32))] (mk c S2) from ?_)
    refine J.zeq (tgt := 50) d_T_isOneOf_43 rfl (fun q5 => ?_) (fun q5 => ?_)
    · have H := ite_t H q5
      refine J.run b_T_isOneOf_50_1 k_T_isOneOf_50_1 rfl (show J w (d + 4) m_T_isOneOf (n0, z0, some (.int z.1), mk c z.2) 51 [some (.ref 34), some (.int x1), some (.int x2), some (.int x3)] [.int (0 : Int32)] (mk c S2) from ?_)
      obtain rfl := some_e H
      exact J.nret d_T_isOneOf_51 rfl rfl rfl
    · have H := ite_f H q5
      refine J.run b_T_isOneOf_46_1 k_T_isOneOf_46_1 rfl (show J w (d + 4) m_T_isOneOf (n0, z0, some (.int z.1), mk c z.2) 47 [some (.ref 34), some (.int x1), some (.int x2), some (.int x3)] [.int (1 : Int32)] (mk c S2) from ?_)
      refine J.goto (tgt := 51) d_T_isOneOf_47 rfl ?_
      obtain rfl := some_e H
      exact J.nret d_T_isOneOf_51 rfl rfl rfl
  · have H := ite_f H q4
    by_cases q6 : r1 = (2 : Int32)
    · have H := ite_t H q6
      refine J.tsIn (off := 46) (tgt := 52) d_T_isOneOf_6 (by rw [q6]; decide) (by rw [q6]; decide) (by rw [q6]; rfl) rfl ?_
      refine J.run b_T_isOneOf_52_3 k_T_isOneOf_52_3 rfl (show J w (d + 4) m_T_isOneOf (n0, z0, some (.int z.1), mk c z.2) 55 [some (.ref 34), some (.int x1), some (.int x2), some (.int x3)] [.int (x3 &&& (2 : Int32))] (mk c S2) from ?_)
      refine J.zeq (tgt := 62) d_T_isOneOf_55 rfl (fun q7 => ?_) (fun q7 => ?_)
      · have H := ite_t H q7
        refine J.run b_T_isOneOf_62_1 k_T_isOneOf_62_1 rfl (show J w (d + 4) m_T_isOneOf (n0, z0, some (.int z.1), mk c z.2) 63 [some (.ref 34), some (.int x1), some (.int x2), some (.int x3)] [.int (0 : Int32)] (mk c S2) from ?_)
        obtain rfl := some_e H
        exact J.nret d_T_isOneOf_63 rfl rfl rfl
      · have H := ite_f H q7
        refine J.run b_T_isOneOf_58_1 k_T_isOneOf_58_1 rfl (show J w (d + 4) m_T_isOneOf (n0, z0, some (.int z.1), mk c z.2) 59 [some (.ref 34), some (.int x1), some (.int x2), some (.int x3)] [.int (1 : Int32)] (mk c S2) from ?_)
        refine J.goto (tgt := 63) d_T_isOneOf_59 rfl ?_
        obtain rfl := some_e H
        exact J.nret d_T_isOneOf_63 rfl rfl rfl
    · have H := ite_f H q6
      by_cases q8 : r1 = (3 : Int32)
      · have H := ite_t H q8
        refine J.tsIn (off := 46) (tgt := 52) d_T_isOneOf_6 (by rw [q8]; decide) (by rw [q8]; decide) (by rw [q8]; rfl) rfl ?_
        refine J.run b_T_isOneOf_52_3 k_T_isOneOf_52_3 rfl (show J w (d + 4) m_T_isOneOf (n0, z0, some (.int z.1), mk c z.2) 55 [some (.ref 34), some (.int x1), some (.int x2), some (.int x3)] [.int (x3 &&& (2 : Int32))] (mk c S2) from ?_)
        refine J.zeq (tgt := 62) d_T_isOneOf_55 rfl (fun q9 => ?_) (fun q9 => ?_)
        · have H := ite_t H q9
          refine J.run b_T_isOneOf_62_1 k_T_isOneOf_62_1 rfl (show J w (d + 4) m_T_isOneOf (n0, z0, some (.int z.1), mk c z.2) 63 [some (.ref 34), some (.int x1), some (.int x2), some (.int x3)] [.int (0 : Int32)] (mk c S2) from ?_)
          obtain rfl := some_e H
          exact J.nret d_T_isOneOf_63 rfl rfl rfl
        · have H := ite_f H q9
          refine J.run b_T_isOneOf_58_1 k_T_isOneOf_58_1 rfl (show J w (d + 4) m_T_isOneOf (n0, z0, some (.int z.1), mk c z.2) 59 [some (.ref 34), some (.int x1), some (.int x2), some (.int x3)] [.int (1 : Int32)] (mk c S2) from ?_)
          refine J.goto (tgt := 63) d_T_isOneOf_59 rfl ?_
          obtain rfl := some_e H
          exact J.nret d_T_isOneOf_63 rfl rfl rfl
      · have H := ite_f H q8
        by_cases q10 : r1 = (4 : Int32)
        · have H := ite_t H q10
          refine J.tsIn (off := 58) (tgt := 64) d_T_isOneOf_6 (by rw [q10]; decide) (by rw [q10]; decide) (by rw [q10]; rfl) rfl ?_
          refine J.run b_T_isOneOf_64_3 k_T_isOneOf_64_3 rfl (show J w (d + 4) m_T_isOneOf (n0, z0, some (.int z.1), mk c z.2) 67 [some (.ref 34), some (.int x1), some (.int x2), some (.int x3)] [.int (x3 &&& (4 : Int32))] (mk c S2) from ?_)
          refine J.zeq (tgt := 74) d_T_isOneOf_67 rfl (fun q11 => ?_) (fun q11 => ?_)
          · have H := ite_t H q11
            refine J.run b_T_isOneOf_74_1 k_T_isOneOf_74_1 rfl (show J w (d + 4) m_T_isOneOf (n0, z0, some (.int z.1), mk c z.2) 75 [some (.ref 34), some (.int x1), some (.int x2), some (.int x3)] [.int (0 : Int32)] (mk c S2) from ?_)
            obtain rfl := some_e H
            exact J.nret d_T_isOneOf_75 rfl rfl rfl
          · have H := ite_f H q11
            refine J.run b_T_isOneOf_70_1 k_T_isOneOf_70_1 rfl (show J w (d + 4) m_T_isOneOf (n0, z0, some (.int z.1), mk c z.2) 71 [some (.ref 34), some (.int x1), some (.int x2), some (.int x3)] [.int (1 : Int32)] (mk c S2) from ?_)
            refine J.goto (tgt := 75) d_T_isOneOf_71 rfl ?_
            obtain rfl := some_e H
            exact J.nret d_T_isOneOf_75 rfl rfl rfl
        · have H := ite_f H q10
          by_cases q12 : r1 = (5 : Int32)
          · have H := ite_t H q12
            refine J.tsIn (off := 70) (tgt := 76) d_T_isOneOf_6 (by rw [q12]; decide) (by rw [q12]; decide) (by rw [q12]; rfl) rfl ?_
            refine J.run b_T_isOneOf_76_3 k_T_isOneOf_76_3 rfl (show J w (d + 4) m_T_isOneOf (n0, z0, some (.int z.1), mk c z.2) 80 [some (.ref 34), some (.int x1), some (.int x2), some (.int x3)] [.int (x3 &&& (8 : Int32))] (mk c S2) from ?_)
            refine J.zeq (tgt := 87) d_T_isOneOf_80 rfl (fun q13 => ?_) (fun q13 => ?_)
            · have H := ite_t H q13
              refine J.run b_T_isOneOf_87_1 k_T_isOneOf_87_1 rfl (show J w (d + 4) m_T_isOneOf (n0, z0, some (.int z.1), mk c z.2) 88 [some (.ref 34), some (.int x1), some (.int x2), some (.int x3)] [.int (0 : Int32)] (mk c S2) from ?_)
              obtain rfl := some_e H
              exact J.nret d_T_isOneOf_88 rfl rfl rfl
            · have H := ite_f H q13
              refine J.run b_T_isOneOf_83_1 k_T_isOneOf_83_1 rfl (show J w (d + 4) m_T_isOneOf (n0, z0, some (.int z.1), mk c z.2) 84 [some (.ref 34), some (.int x1), some (.int x2), some (.int x3)] [.int (1 : Int32)] (mk c S2) from ?_)
              refine J.goto (tgt := 88) d_T_isOneOf_84 rfl ?_
              obtain rfl := some_e H
              exact J.nret d_T_isOneOf_88 rfl rfl rfl
          · have H := ite_f H q12
            refine J.tsOut (tgt := 89) d_T_isOneOf_6 (tsO fun k h1 h2 => ?_) rfl ?_
            · rcases (show k = 1 ∨ k = 2 ∨ k = 3 ∨ k = 4 ∨ k = 5 by omega) with rfl | rfl | rfl | rfl | rfl
              · exact lv_neT q4 rfl
              · exact lv_neT q6 rfl
              · exact lv_neT q8 rfl
              · exact lv_neT q10 rfl
              · exact lv_neT q12 rfl
            · refine J.run b_T_isOneOf_89_1 k_T_isOneOf_89_1 rfl (show J w (d + 4) m_T_isOneOf (n0, z0, some (.int z.1), mk c z.2) 90 [some (.ref 34), some (.int x1), some (.int x2), some (.int x3)] [.int (0 : Int32)] (mk c S2) from ?_)
              obtain rfl := some_e H
              exact J.nret d_T_isOneOf_90 rfl rfl rfl
def b_T_countCourses_0_4 : List Ins := [(.iconst (0), 0, 0, 0), (.istore_n 1, 0, 0, 0), (.iconst (0), 0, 0, 0), (.istore_n 2, 0, 0, 0)]
theorem k_T_countCourses_0_4 : bok m_T_countCourses 0 b_T_countCourses_0_4 = true := by decide +kernel
def b_T_countCourses_4_2 : List Ins := [(.iload_n 2, 0, 0, 0), (.bipush (40), 0, 0, 0)]
theorem k_T_countCourses_4_2 : bok m_T_countCourses 4 b_T_countCourses_4_2 = true := by decide +kernel
def b_T_countCourses_32_1 : List Ins := [(.iload_n 1, 0, 0, 0)]
theorem k_T_countCourses_32_1 : bok m_T_countCourses 32 b_T_countCourses_32_1 = true := by decide +kernel
def b_T_countCourses_10_3 : List Ins := [(.iload_n 1, 0, 0, 0), (.aload_n 0, 0, 0, 0), (.iload_n 2, 0, 0, 0)]
theorem k_T_countCourses_10_3 : bok m_T_countCourses 10 b_T_countCourses_10_3 = true := by decide +kernel
def b_T_countCourses_23_4 : List Ins := [(.iconst (0), 0, 0, 0), (.iadd, 0, 0, 0), (.istore_n 1, 0, 0, 0), (.iinc 2 (1), 0, 0, 0)]
theorem k_T_countCourses_23_4 : bok m_T_countCourses 23 b_T_countCourses_23_4 = true := by decide +kernel
def b_T_countCourses_19_1 : List Ins := [(.iconst (1), 0, 0, 0)]
theorem k_T_countCourses_19_1 : bok m_T_countCourses 19 b_T_countCourses_19_1 = true := by decide +kernel
def b_T_countCourses_24_3 : List Ins := [(.iadd, 0, 0, 0), (.istore_n 1, 0, 0, 0), (.iinc 2 (1), 0, 0, 0)]
theorem k_T_countCourses_24_3 : bok m_T_countCourses 24 b_T_countCourses_24_3 = true := by decide +kernel
theorem d_T_countCourses_7 : decode m_T_countCourses.2.1 7 = .ok (.if_icmp .ge (25), 3) := by decide +kernel
theorem d_T_countCourses_33 : decode m_T_countCourses.2.1 33 = .ok (.ireturn, 1) := by decide +kernel
theorem d_T_countCourses_13 : decode m_T_countCourses.2.1 13 = .ok (.invokevirtual 50, 3) := by decide +kernel
theorem d_T_countCourses_16 : decode m_T_countCourses.2.1 16 = .ok (.ifCond .eq (7), 3) := by decide +kernel
theorem d_T_countCourses_29 : decode m_T_countCourses.2.1 29 = .ok (.goto (-25), 3) := by decide +kernel
theorem d_T_countCourses_20 : decode m_T_countCourses.2.1 20 = .ok (.goto (4), 3) := by decide +kernel
def lp_T_countCourses_4    : Nat → hs → Int32 → Int32 → Option (Int32 × hs)
  | 0, _, _, _ => none
  | n + 1, S, x1, x2 => (if (40 : Int32) ≤ x2 then some (x1, S) else bd (f_T_hasCourse  S x2) fun r2 S3 => (if r2 = 0 then lp_T_countCourses_4  n S3 (x1 + (0 : Int32)) (x2 + (1 : Int32)) else lp_T_countCourses_4  n S3 (x1 + (1 : Int32)) (x2 + (1 : Int32))))
def f_T_countCourses  (S : hs)  : Option (Int32 × hs) := lp_T_countCourses_4  1000 S (0 : Int32) (0 : Int32)
theorem lo_T_countCourses_4 (w : Wd) (d : Nat) (c : cx) {n0 z0 : Nat} {z : Int32 × hs}       :
    ∀ (n : Nat) (S : hs) (x1 : Int32) (x2 : Int32), lp_T_countCourses_4  n S x1 x2 = some z → J w (d + 4) m_T_countCourses (n0, z0, some (.int z.1), mk c z.2) 4 [some (.ref 34), some (.int x1), some (.int x2)] [] (mk c S) := by
  intro n
  induction n with
  | zero => intro S x1 x2 H; cases H
  | succ n ih =>
    intro S x1 x2 H
    rw [lp_T_countCourses_4] at H
    refine J.run b_T_countCourses_4_2 k_T_countCourses_4_2 rfl (show J w (d + 4) m_T_countCourses (n0, z0, some (.int z.1), mk c z.2) 7 [some (.ref 34), some (.int x1), some (.int x2)] [.int (40 : Int32), .int x2] (mk c S) from ?_)
    refine J.cge (tgt := 32) d_T_countCourses_7 rfl (fun q1 => ?_) (fun q1 => ?_)
    · have H := ite_t H q1
      refine J.run b_T_countCourses_32_1 k_T_countCourses_32_1 rfl (show J w (d + 4) m_T_countCourses (n0, z0, some (.int z.1), mk c z.2) 33 [some (.ref 34), some (.int x1), some (.int x2)] [.int x1] (mk c S) from ?_)
      obtain rfl := some_e H
      exact J.iret d_T_countCourses_33 rfl rfl
    · have H := ite_f H q1
      refine J.run b_T_countCourses_10_3 k_T_countCourses_10_3 rfl (show J w (d + 4) m_T_countCourses (n0, z0, some (.int z.1), mk c z.2) 13 [some (.ref 34), some (.int x1), some (.int x2)] [.int x2, .ref 34, .int x1] (mk c S) from ?_)
      obtain ⟨r2, S3, h4, H⟩ := bd_e H
      refine J.callV (y := m_T_hasCourse) (av := [.int x2]) (rest := [.int x1]) (q := 34) l_T_50 d_T_countCourses_13 (isC_st rfl rfl) (c_T_hasCourse w (d + 0) c  S x2 h4) rfl (Nat.le_of_ble_eq_true rfl) ⟨Nat.le_refl _, Nat.le_refl _⟩ (show J w (d + 4) m_T_countCourses (n0, z0, some (.int z.1), mk c z.2) 16 [some (.ref 34), some (.int x1), some (.int x2)] [.int r2, .int x1] (mk c S3) from ?_)
      refine J.zeq (tgt := 23) d_T_countCourses_16 rfl (fun q5 => ?_) (fun q5 => ?_)
      · have H := ite_t H q5
        refine J.run b_T_countCourses_23_4 k_T_countCourses_23_4 rfl (show J w (d + 4) m_T_countCourses (n0, z0, some (.int z.1), mk c z.2) 29 [some (.ref 34), some (.int (x1 + (0 : Int32))), some (.int (x2 + (1 : Int32)))] [] (mk c S3) from ?_)
        refine J.goto (tgt := 4) d_T_countCourses_29 rfl ?_
        refine J.mask [true, true, true] ?_
        exact ih S3 (x1 + (0 : Int32)) (x2 + (1 : Int32)) H
      · have H := ite_f H q5
        refine J.run b_T_countCourses_19_1 k_T_countCourses_19_1 rfl (show J w (d + 4) m_T_countCourses (n0, z0, some (.int z.1), mk c z.2) 20 [some (.ref 34), some (.int x1), some (.int x2)] [.int (1 : Int32), .int x1] (mk c S3) from ?_)
        refine J.goto (tgt := 24) d_T_countCourses_20 rfl ?_
        refine J.run b_T_countCourses_24_3 k_T_countCourses_24_3 rfl (show J w (d + 4) m_T_countCourses (n0, z0, some (.int z.1), mk c z.2) 29 [some (.ref 34), some (.int (x1 + (1 : Int32))), some (.int (x2 + (1 : Int32)))] [] (mk c S3) from ?_)
        refine J.goto (tgt := 4) d_T_countCourses_29 rfl ?_
        refine J.mask [true, true, true] ?_
        exact ih S3 (x1 + (1 : Int32)) (x2 + (1 : Int32)) H
theorem c_T_countCourses (w : Wd) (d : Nat) (c : cx)   (S : hs)   {z : Int32 × hs} (H : f_T_countCourses S = some z) : Cl w (d + 4) m_T_countCourses [.ref 34] (mk c S) (some (.int z.1)) (mk c z.2) := by
  refine Cl.of (Nat.le_refl _) (Nat.le_refl _) (by decide +kernel) (Nat.le_of_ble_eq_true rfl) ?_
  unfold f_T_countCourses at H
  generalize hN (mk c S) = n0
  generalize hZ (mk c S) = z0
  show J w (d + 4) m_T_countCourses (n0, z0, some (.int z.1), mk c z.2) 0 [some (.ref 34), none, none] [] (mk c S)
  refine J.run b_T_countCourses_0_4 k_T_countCourses_0_4 rfl (show J w (d + 4) m_T_countCourses (n0, z0, some (.int z.1), mk c z.2) 4 [some (.ref 34), some (.int (0 : Int32)), some (.int (0 : Int32))] [] (mk c S) from ?_)
  refine J.mask [true, true, true] ?_
  refine lo_T_countCourses_4 w d c   1000 S (0 : Int32) (0 : Int32) H
