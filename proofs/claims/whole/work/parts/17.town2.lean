/-! LeftTown -/
def b_X_crossing_0_1 : List Ins := [(.iload_n 1, 0, 0, 0)]
theorem k_X_crossing_0_1 : bok m_X_crossing 0 b_X_crossing_0_1 = true := by decide +kernel
def b_X_crossing_20_1 : List Ins := [(.iconst (-1), 0, 0, 0)]
theorem k_X_crossing_20_1 : bok m_X_crossing 20 b_X_crossing_20_1 = true := by decide +kernel
def b_X_crossing_4_2 : List Ins := [(.iload_n 1, 0, 0, 0), (.bipush (9), 0, 0, 0)]
theorem k_X_crossing_4_2 : bok m_X_crossing 4 b_X_crossing_4_2 = true := by decide +kernel
def b_X_crossing_10_1 : List Ins := [(.iload_n 2, 0, 0, 0)]
theorem k_X_crossing_10_1 : bok m_X_crossing 10 b_X_crossing_10_1 = true := by decide +kernel
def b_X_crossing_14_2 : List Ins := [(.iload_n 2, 0, 0, 0), (.bipush (9), 0, 0, 0)]
theorem k_X_crossing_14_2 : bok m_X_crossing 14 b_X_crossing_14_2 = true := by decide +kernel
def b_X_crossing_22_4 : List Ins := [(.aload_n 0, 0, 0, 0), (.getfield 10, 0, 0, 2), (.getfield 57, 1, 5, 0), (.bipush (12), 0, 0, 0)]
theorem k_X_crossing_22_4 : bok m_X_crossing 22 b_X_crossing_22_4 = true := by decide +kernel
def b_X_crossing_37_4 : List Ins := [(.aload_n 0, 0, 0, 0), (.getfield 10, 0, 0, 2), (.iload_n 1, 0, 0, 0), (.iload_n 2, 0, 0, 0)]
theorem k_X_crossing_37_4 : bok m_X_crossing 37 b_X_crossing_37_4 = true := by decide +kernel
def b_X_crossing_54_4 : List Ins := [(.aload_n 0, 0, 0, 0), (.getfield 10, 0, 0, 2), (.iload_n 1, 0, 0, 0), (.iload_n 2, 0, 0, 0)]
theorem k_X_crossing_54_4 : bok m_X_crossing 54 b_X_crossing_54_4 = true := by decide +kernel
def b_X_crossing_49_1 : List Ins := [(.bipush (-4), 0, 0, 0)]
theorem k_X_crossing_49_1 : bok m_X_crossing 49 b_X_crossing_49_1 = true := by decide +kernel
def b_X_crossing_34_1 : List Ins := [(.bipush (-2), 0, 0, 0)]
theorem k_X_crossing_34_1 : bok m_X_crossing 34 b_X_crossing_34_1 = true := by decide +kernel
theorem d_X_crossing_1 : decode m_X_crossing.2.1 1 = .ok (.ifCond .lt (19), 3) := by decide +kernel
theorem d_X_crossing_21 : decode m_X_crossing.2.1 21 = .ok (.ireturn, 1) := by decide +kernel
theorem d_X_crossing_7 : decode m_X_crossing.2.1 7 = .ok (.if_icmp .gt (13), 3) := by decide +kernel
theorem d_X_crossing_11 : decode m_X_crossing.2.1 11 = .ok (.ifCond .lt (9), 3) := by decide +kernel
theorem d_X_crossing_17 : decode m_X_crossing.2.1 17 = .ok (.if_icmp .le (5), 3) := by decide +kernel
theorem d_X_crossing_31 : decode m_X_crossing.2.1 31 = .ok (.if_icmp .lt (6), 3) := by decide +kernel
theorem d_X_crossing_43 : decode m_X_crossing.2.1 43 = .ok (.invokevirtual 60, 3) := by decide +kernel
theorem d_X_crossing_46 : decode m_X_crossing.2.1 46 = .ok (.ifCond .eq (8), 3) := by decide +kernel
theorem d_X_crossing_60 : decode m_X_crossing.2.1 60 = .ok (.invokevirtual 64, 3) := by decide +kernel
theorem d_X_crossing_63 : decode m_X_crossing.2.1 63 = .ok (.ireturn, 1) := by decide +kernel
theorem d_X_crossing_51 : decode m_X_crossing.2.1 51 = .ok (.goto (12), 3) := by decide +kernel
theorem d_X_crossing_36 : decode m_X_crossing.2.1 36 = .ok (.ireturn, 1) := by decide +kernel
def f_X_crossing  (S : hs) (x1 : Int32) (x2 : Int32) : Option (Int32 × hs) := (if x1 < 0 then some ((-1 : Int32), S) else (if (9 : Int32) < x1 then some ((-1 : Int32), S) else (if x2 < 0 then some ((-1 : Int32), S) else (if x2 ≤ (9 : Int32) then (if (gI S 34 5) < (12 : Int32) then bd (f_T_isTaken  S x1 x2) fun r6 S7 => (if r6 = 0 then bd (f_T_addCrossing  S7 x1 x2) fun r10 S11 => some (r10, S11) else some ((-4 : Int32), S7)) else some ((-2 : Int32), S)) else some ((-1 : Int32), S)))))
theorem c_X_crossing (w : Wd) (d : Nat) (c : cx)   (S : hs) (x1 : Int32) (x2 : Int32)  {z : Int32 × hs} (H : f_X_crossing S x1 x2 = some z) : Cl w (d + 2) m_X_crossing [.ref 33, .int x1, .int x2] (mk c S) (some (.int z.1)) (mk c z.2) := by
  refine Cl.of (Nat.le_refl _) (Nat.le_refl _) (by decide +kernel) (Nat.le_of_ble_eq_true rfl) ?_
  unfold f_X_crossing at H
  generalize hN (mk c S) = n0
  generalize hZ (mk c S) = z0
  show J w (d + 2) m_X_crossing (n0, z0, some (.int z.1), mk c z.2) 0 [some (.ref 33), some (.int x1), some (.int x2)] [] (mk c S)
  refine J.run b_X_crossing_0_1 k_X_crossing_0_1 rfl (show J w (d + 2) m_X_crossing (n0, z0, some (.int z.1), mk c z.2) 1 [some (.ref 33), some (.int x1), some (.int x2)] [.int x1] (mk c S) from ?_)
  refine J.zlt (tgt := 20) d_X_crossing_1 rfl (fun q1 => ?_) (fun q1 => ?_)
  · have H := ite_t H q1
    refine J.run b_X_crossing_20_1 k_X_crossing_20_1 rfl (show J w (d + 2) m_X_crossing (n0, z0, some (.int z.1), mk c z.2) 21 [some (.ref 33), some (.int x1), some (.int x2)] [.int (-1 : Int32)] (mk c S) from ?_)
    obtain rfl := some_e H
    exact J.iret d_X_crossing_21 rfl rfl
  · have H := ite_f H q1
    refine J.run b_X_crossing_4_2 k_X_crossing_4_2 rfl (show J w (d + 2) m_X_crossing (n0, z0, some (.int z.1), mk c z.2) 7 [some (.ref 33), some (.int x1), some (.int x2)] [.int (9 : Int32), .int x1] (mk c S) from ?_)
    refine J.cgt (tgt := 20) d_X_crossing_7 rfl (fun q2 => ?_) (fun q2 => ?_)
    · have H := ite_t H q2
      refine J.run b_X_crossing_20_1 k_X_crossing_20_1 rfl (show J w (d + 2) m_X_crossing (n0, z0, some (.int z.1), mk c z.2) 21 [some (.ref 33), some (.int x1), some (.int x2)] [.int (-1 : Int32)] (mk c S) from ?_)
      obtain rfl := some_e H
      exact J.iret d_X_crossing_21 rfl rfl
    · have H := ite_f H q2
      refine J.run b_X_crossing_10_1 k_X_crossing_10_1 rfl (show J w (d + 2) m_X_crossing (n0, z0, some (.int z.1), mk c z.2) 11 [some (.ref 33), some (.int x1), some (.int x2)] [.int x2] (mk c S) from ?_)
      refine J.zlt (tgt := 20) d_X_crossing_11 rfl (fun q3 => ?_) (fun q3 => ?_)
      · have H := ite_t H q3
        refine J.run b_X_crossing_20_1 k_X_crossing_20_1 rfl (show J w (d + 2) m_X_crossing (n0, z0, some (.int z.1), mk c z.2) 21 [some (.ref 33), some (.int x1), some (.int x2)] [.int (-1 : Int32)] (mk c S) from ?_)
        obtain rfl := some_e H
        exact J.iret d_X_crossing_21 rfl rfl
      · have H := ite_f H q3
        refine J.run b_X_crossing_14_2 k_X_crossing_14_2 rfl (show J w (d + 2) m_X_crossing (n0, z0, some (.int z.1), mk c z.2) 17 [some (.ref 33), some (.int x1), some (.int x2)] [.int (9 : Int32), .int x2] (mk c S) from ?_)
        refine J.cle (tgt := 22) d_X_crossing_17 rfl (fun q4 => ?_) (fun q4 => ?_)
        · have H := ite_t H q4
          refine J.run b_X_crossing_22_4 k_X_crossing_22_4 rfl (And.intro (okO_st (S := S) rfl) (And.intro (okO_st (S := S) rfl) (show J w (d + 2) m_X_crossing (n0, z0, some (.int z.1), mk c z.2) 31 [some (.ref 33), some (.int x1), some (.int x2)] [.int (12 : Int32), .int (gI S 34 5)] (mk c S) from ?_)))
          refine J.clt (tgt := 37) d_X_crossing_31 rfl (fun q5 => ?_) (fun q5 => ?_)
          · have H := ite_t H q5
            refine J.run b_X_crossing_37_4 k_X_crossing_37_4 rfl (And.intro (okO_st (S := S) rfl) (show J w (d + 2) m_X_crossing (n0, z0, some (.int z.1), mk c z.2) 43 [some (.ref 33), some (.int x1), some (.int x2)] [.int x2, .int x1, .ref 34] (mk c S) from ?_))
            obtain ⟨r6, S7, h8, H⟩ := bd_e H
            refine J.callV (y := m_T_isTaken) (av := [.int x1, .int x2]) (rest := []) (q := 34) l_X_60 d_X_crossing_43 (isC_st rfl rfl) (c_T_isTaken w (d + 0) c  S x1 x2 h8) rfl (Nat.le_of_ble_eq_true rfl) ⟨Nat.le_refl _, Nat.le_refl _⟩ (show J w (d + 2) m_X_crossing (n0, z0, some (.int z.1), mk c z.2) 46 [some (.ref 33), some (.int x1), some (.int x2)] [.int r6] (mk c S7) from ?_)
            refine J.zeq (tgt := 54) d_X_crossing_46 rfl (fun q9 => ?_) (fun q9 => ?_)
            · have H := ite_t H q9
              refine J.run b_X_crossing_54_4 k_X_crossing_54_4 rfl (And.intro (okO_st (S := S7) rfl) (show J w (d + 2) m_X_crossing (n0, z0, some (.int z.1), mk c z.2) 60 [some (.ref 33), some (.int x1), some (.int x2)] [.int x2, .int x1, .ref 34] (mk c S7) from ?_))
              obtain ⟨r10, S11, h12, H⟩ := bd_e H
              refine J.callV (y := m_T_addCrossing) (av := [.int x1, .int x2]) (rest := []) (q := 34) l_X_64 d_X_crossing_60 (isC_st rfl rfl) (c_T_addCrossing w (d + 0) c  S7 x1 x2 h12) rfl (Nat.le_of_ble_eq_true rfl) ⟨Nat.le_refl _, Nat.le_refl _⟩ (show J w (d + 2) m_X_crossing (n0, z0, some (.int z.1), mk c z.2) 63 [some (.ref 33), some (.int x1), some (.int x2)] [.int r10] (mk c S11) from ?_)
              obtain rfl := some_e H
              exact J.iret d_X_crossing_63 rfl rfl
            · have H := ite_f H q9
              refine J.run b_X_crossing_49_1 k_X_crossing_49_1 rfl (show J w (d + 2) m_X_crossing (n0, z0, some (.int z.1), mk c z.2) 51 [some (.ref 33), some (.int x1), some (.int x2)] [.int (-4 : Int32)] (mk c S7) from ?_)
              refine J.goto (tgt := 63) d_X_crossing_51 rfl ?_
              obtain rfl := some_e H
              exact J.iret d_X_crossing_63 rfl rfl
          · have H := ite_f H q5
            refine J.run b_X_crossing_34_1 k_X_crossing_34_1 rfl (show J w (d + 2) m_X_crossing (n0, z0, some (.int z.1), mk c z.2) 36 [some (.ref 33), some (.int x1), some (.int x2)] [.int (-2 : Int32)] (mk c S) from ?_)
            obtain rfl := some_e H
            exact J.iret d_X_crossing_36 rfl rfl
        · have H := ite_f H q4
          refine J.run b_X_crossing_20_1 k_X_crossing_20_1 rfl (show J w (d + 2) m_X_crossing (n0, z0, some (.int z.1), mk c z.2) 21 [some (.ref 33), some (.int x1), some (.int x2)] [.int (-1 : Int32)] (mk c S) from ?_)
          obtain rfl := some_e H
          exact J.iret d_X_crossing_21 rfl rfl
def b_X_crossingOf_0_3 : List Ins := [(.aload_n 0, 0, 0, 0), (.getfield 10, 0, 0, 2), (.iload_n 1, 0, 0, 0)]
theorem k_X_crossingOf_0_3 : bok m_X_crossingOf 0 b_X_crossingOf_0_3 = true := by decide +kernel
def b_X_crossingOf_13_1 : List Ins := [(.iload_n 2, 0, 0, 0)]
theorem k_X_crossingOf_13_1 : bok m_X_crossingOf 13 b_X_crossingOf_13_1 = true := by decide +kernel
def b_X_crossingOf_44_7 : List Ins := [(.aload_n 0, 0, 0, 0), (.getfield 10, 0, 0, 2), (.getfield 72, 1, 0, 2), (.iload_n 1, 0, 0, 0), (.aaload, 0, 0, 0), (.iload_n 2, 0, 0, 0), (.iaload, 0, 0, 0)]
theorem k_X_crossingOf_44_7 : bok m_X_crossingOf 44 b_X_crossingOf_44_7 = true := by decide +kernel
def b_X_crossingOf_56_3 : List Ins := [(.aload_n 0, 0, 0, 0), (.getfield 10, 0, 0, 2), (.iload_n 1, 0, 0, 0)]
theorem k_X_crossingOf_56_3 : bok m_X_crossingOf 56 b_X_crossingOf_56_3 = true := by decide +kernel
def b_X_crossingOf_65_3 : List Ins := [(.aload_n 0, 0, 0, 0), (.getfield 10, 0, 0, 2), (.iload_n 1, 0, 0, 0)]
theorem k_X_crossingOf_65_3 : bok m_X_crossingOf 65 b_X_crossingOf_65_3 = true := by decide +kernel
def b_X_crossingOf_74_1 : List Ins := [(.iconst (-1), 0, 0, 0)]
theorem k_X_crossingOf_74_1 : bok m_X_crossingOf 74 b_X_crossingOf_74_1 = true := by decide +kernel
def b_X_crossingOf_11_1 : List Ins := [(.iconst (-1), 0, 0, 0)]
theorem k_X_crossingOf_11_1 : bok m_X_crossingOf 11 b_X_crossingOf_11_1 = true := by decide +kernel
theorem d_X_crossingOf_5 : decode m_X_crossingOf.2.1 5 = .ok (.invokevirtual 68, 3) := by decide +kernel
theorem d_X_crossingOf_8 : decode m_X_crossingOf.2.1 8 = .ok (.ifCond .ne (5), 3) := by decide +kernel
theorem d_X_crossingOf_14 : decode m_X_crossingOf.2.1 14 = .ok (.tableswitch (60) (0) (3) #[30, 30, 42, 51], 30) := by decide +kernel
theorem d_X_crossingOf_55 : decode m_X_crossingOf.2.1 55 = .ok (.ireturn, 1) := by decide +kernel
theorem d_X_crossingOf_61 : decode m_X_crossingOf.2.1 61 = .ok (.invokevirtual 75, 3) := by decide +kernel
theorem d_X_crossingOf_64 : decode m_X_crossingOf.2.1 64 = .ok (.ireturn, 1) := by decide +kernel
theorem d_X_crossingOf_70 : decode m_X_crossingOf.2.1 70 = .ok (.invokevirtual 79, 3) := by decide +kernel
theorem d_X_crossingOf_73 : decode m_X_crossingOf.2.1 73 = .ok (.ireturn, 1) := by decide +kernel
theorem d_X_crossingOf_75 : decode m_X_crossingOf.2.1 75 = .ok (.ireturn, 1) := by decide +kernel
theorem d_X_crossingOf_12 : decode m_X_crossingOf.2.1 12 = .ok (.ireturn, 1) := by decide +kernel
def f_X_crossingOf  (S : hs) (x1 : Int32) (x2 : Int32) : Option (Int32 × hs) := bd (f_T_hasCrossing  S x1) fun r1 S2 => (if r1 = 0 then some ((-1 : Int32), S2) else (if x2 = (0 : Int32) then ck (inb x1 12) (ck (inb x2 2) (some ((gI S2 (36 + (x1).toNatClampNeg) (x2).toNatClampNeg), S2))) else (if x2 = (1 : Int32) then ck (inb x1 12) (ck (inb x2 2) (some ((gI S2 (36 + (x1).toNatClampNeg) (x2).toNatClampNeg), S2))) else (if x2 = (2 : Int32) then bd (f_T_countBeginning  S2 x1) fun r12 S13 => some (r12, S13) else (if x2 = (3 : Int32) then bd (f_T_countEnding  S2 x1) fun r16 S17 => some (r16, S17) else some ((-1 : Int32), S2))))))
theorem c_X_crossingOf (w : Wd) (d : Nat) (c : cx)   (S : hs) (x1 : Int32) (x2 : Int32)  {z : Int32 × hs} (H : f_X_crossingOf S x1 x2 = some z) : Cl w (d + 5) m_X_crossingOf [.ref 33, .int x1, .int x2] (mk c S) (some (.int z.1)) (mk c z.2) := by
  refine Cl.of (Nat.le_refl _) (Nat.le_refl _) (by decide +kernel) (Nat.le_of_ble_eq_true rfl) ?_
  unfold f_X_crossingOf at H
  generalize hN (mk c S) = n0
  generalize hZ (mk c S) = z0
  show J w (d + 5) m_X_crossingOf (n0, z0, some (.int z.1), mk c z.2) 0 [some (.ref 33), some (.int x1), some (.int x2)] [] (mk c S)
  refine J.run b_X_crossingOf_0_3 k_X_crossingOf_0_3 rfl (And.intro (okO_st (S := S) rfl) (show J w (d + 5) m_X_crossingOf (n0, z0, some (.int z.1), mk c z.2) 5 [some (.ref 33), some (.int x1), some (.int x2)] [.int x1, .ref 34] (mk c S) from ?_))
  obtain ⟨r1, S2, h3, H⟩ := bd_e H
  refine J.callV (y := m_T_hasCrossing) (av := [.int x1]) (rest := []) (q := 34) l_X_68 d_X_crossingOf_5 (isC_st rfl rfl) (c_T_hasCrossing w (d + 3) c  S x1 h3) rfl (Nat.le_of_ble_eq_true rfl) ⟨Nat.le_refl _, Nat.le_refl _⟩ (show J w (d + 5) m_X_crossingOf (n0, z0, some (.int z.1), mk c z.2) 8 [some (.ref 33), some (.int x1), some (.int x2)] [.int r1] (mk c S2) from ?_)
  refine J.zne (tgt := 13) d_X_crossingOf_8 rfl (fun q4 => ?_) (fun q4 => ?_)
  · have H := ite_f H q4
    refine J.run b_X_crossingOf_13_1 k_X_crossingOf_13_1 rfl (show J w (d + 5) m_X_crossingOf (n0, z0, some (.int z.1), mk c z.2) 14 [some (.ref 33), some (.int x1), some (.int x2)] [.int x2] (mk c S2) from ?_)
    by_cases q5 : x2 = (0 : Int32)
    · have H := ite_t H q5
      refine J.tsIn (off := 30) (tgt := 44) d_X_crossingOf_14 (by rw [q5]; decide) (by rw [q5]; decide) (by rw [q5]; rfl) rfl ?_
      obtain ⟨g6, H⟩ := ck_e H
      obtain ⟨g7, H⟩ := ck_e H
      refine J.run b_X_crossingOf_44_7 k_X_crossingOf_44_7 rfl (And.intro (okO_st (S := S2) rfl) (And.intro (okO_st (S := S2) rfl) (And.intro (okQ_st (S := S2) (k := 23) (n := 12) rfl rfl g6) (And.intro (okA_row (S := S2) (b := 36) (cnt := 12) (n := 2) rfl (inb_lt g6) g7) (show J w (d + 5) m_X_crossingOf (n0, z0, some (.int z.1), mk c z.2) 55 [some (.ref 33), some (.int x1), some (.int x2)] [.int (gI S2 (36 + (x1).toNatClampNeg) (x2).toNatClampNeg)] (mk c S2) from ?_)))))
      obtain rfl := some_e H
      exact J.iret d_X_crossingOf_55 rfl rfl
    · have H := ite_f H q5
      by_cases q8 : x2 = (1 : Int32)
      · have H := ite_t H q8
        refine J.tsIn (off := 30) (tgt := 44) d_X_crossingOf_14 (by rw [q8]; decide) (by rw [q8]; decide) (by rw [q8]; rfl) rfl ?_
        obtain ⟨g9, H⟩ := ck_e H
        obtain ⟨g10, H⟩ := ck_e H
        refine J.run b_X_crossingOf_44_7 k_X_crossingOf_44_7 rfl (And.intro (okO_st (S := S2) rfl) (And.intro (okO_st (S := S2) rfl) (And.intro (okQ_st (S := S2) (k := 23) (n := 12) rfl rfl g9) (And.intro (okA_row (S := S2) (b := 36) (cnt := 12) (n := 2) rfl (inb_lt g9) g10) (show J w (d + 5) m_X_crossingOf (n0, z0, some (.int z.1), mk c z.2) 55 [some (.ref 33), some (.int x1), some (.int x2)] [.int (gI S2 (36 + (x1).toNatClampNeg) (x2).toNatClampNeg)] (mk c S2) from ?_)))))
        obtain rfl := some_e H
        exact J.iret d_X_crossingOf_55 rfl rfl
      · have H := ite_f H q8
        by_cases q11 : x2 = (2 : Int32)
        · have H := ite_t H q11
          refine J.tsIn (off := 42) (tgt := 56) d_X_crossingOf_14 (by rw [q11]; decide) (by rw [q11]; decide) (by rw [q11]; rfl) rfl ?_
          refine J.run b_X_crossingOf_56_3 k_X_crossingOf_56_3 rfl (And.intro (okO_st (S := S2) rfl) (show J w (d + 5) m_X_crossingOf (n0, z0, some (.int z.1), mk c z.2) 61 [some (.ref 33), some (.int x1), some (.int x2)] [.int x1, .ref 34] (mk c S2) from ?_))
          obtain ⟨r12, S13, h14, H⟩ := bd_e H
          refine J.callV (y := m_T_countBeginning) (av := [.int x1]) (rest := []) (q := 34) l_X_75 d_X_crossingOf_61 (isC_st rfl rfl) (c_T_countBeginning w (d + 0) c  S2 x1 h14) rfl (Nat.le_of_ble_eq_true rfl) ⟨Nat.le_refl _, Nat.le_refl _⟩ (show J w (d + 5) m_X_crossingOf (n0, z0, some (.int z.1), mk c z.2) 64 [some (.ref 33), some (.int x1), some (.int x2)] [.int r12] (mk c S13) from ?_)
          obtain rfl := some_e H
          exact J.iret d_X_crossingOf_64 rfl rfl
        · have H := ite_f H q11
          by_cases q15 : x2 = (3 : Int32)
          · have H := ite_t H q15
            refine J.tsIn (off := 51) (tgt := 65) d_X_crossingOf_14 (by rw [q15]; decide) (by rw [q15]; decide) (by rw [q15]; rfl) rfl ?_
            refine J.run b_X_crossingOf_65_3 k_X_crossingOf_65_3 rfl (And.intro (okO_st (S := S2) rfl) (show J w (d + 5) m_X_crossingOf (n0, z0, some (.int z.1), mk c z.2) 70 [some (.ref 33), some (.int x1), some (.int x2)] [.int x1, .ref 34] (mk c S2) from ?_))
            obtain ⟨r16, S17, h18, H⟩ := bd_e H
            refine J.callV (y := m_T_countEnding) (av := [.int x1]) (rest := []) (q := 34) l_X_79 d_X_crossingOf_70 (isC_st rfl rfl) (c_T_countEnding w (d + 0) c  S2 x1 h18) rfl (Nat.le_of_ble_eq_true rfl) ⟨Nat.le_refl _, Nat.le_refl _⟩ (show J w (d + 5) m_X_crossingOf (n0, z0, some (.int z.1), mk c z.2) 73 [some (.ref 33), some (.int x1), some (.int x2)] [.int r16] (mk c S17) from ?_)
            obtain rfl := some_e H
            exact J.iret d_X_crossingOf_73 rfl rfl
          · have H := ite_f H q15
            refine J.tsOut (tgt := 74) d_X_crossingOf_14 (tsO fun k h1 h2 => ?_) rfl ?_
            · rcases (show k = 0 ∨ k = 1 ∨ k = 2 ∨ k = 3 by omega) with rfl | rfl | rfl | rfl
              · exact lv_neT q5 rfl
              · exact lv_neT q8 rfl
              · exact lv_neT q11 rfl
              · exact lv_neT q15 rfl
            · refine J.run b_X_crossingOf_74_1 k_X_crossingOf_74_1 rfl (show J w (d + 5) m_X_crossingOf (n0, z0, some (.int z.1), mk c z.2) 75 [some (.ref 33), some (.int x1), some (.int x2)] [.int (-1 : Int32)] (mk c S2) from ?_)
              obtain rfl := some_e H
              exact J.iret d_X_crossingOf_75 rfl rfl
  · have H := ite_t H q4
    refine J.run b_X_crossingOf_11_1 k_X_crossingOf_11_1 rfl (show J w (d + 5) m_X_crossingOf (n0, z0, some (.int z.1), mk c z.2) 12 [some (.ref 33), some (.int x1), some (.int x2)] [.int (-1 : Int32)] (mk c S2) from ?_)
    obtain rfl := some_e H
    exact J.iret d_X_crossingOf_12 rfl rfl
def b_X_isWide_0_2 : List Ins := [(.iload_n 0, 0, 0, 0), (.iconst (1), 0, 0, 0)]
theorem k_X_isWide_0_2 : bok m_X_isWide 0 b_X_isWide_0_2 = true := by decide +kernel
def b_X_isWide_15_1 : List Ins := [(.iconst (0), 0, 0, 0)]
theorem k_X_isWide_15_1 : bok m_X_isWide 15 b_X_isWide_15_1 = true := by decide +kernel
def b_X_isWide_5_2 : List Ins := [(.iload_n 0, 0, 0, 0), (.bipush (9), 0, 0, 0)]
theorem k_X_isWide_5_2 : bok m_X_isWide 5 b_X_isWide_5_2 = true := by decide +kernel
def b_X_isWide_11_1 : List Ins := [(.iconst (1), 0, 0, 0)]
theorem k_X_isWide_11_1 : bok m_X_isWide 11 b_X_isWide_11_1 = true := by decide +kernel
theorem d_X_isWide_2 : decode m_X_isWide.2.1 2 = .ok (.if_icmp .lt (13), 3) := by decide +kernel
theorem d_X_isWide_16 : decode m_X_isWide.2.1 16 = .ok (.ireturn, 1) := by decide +kernel
theorem d_X_isWide_8 : decode m_X_isWide.2.1 8 = .ok (.if_icmp .gt (7), 3) := by decide +kernel
theorem d_X_isWide_12 : decode m_X_isWide.2.1 12 = .ok (.goto (4), 3) := by decide +kernel
def f_X_isWide  (S : hs) (x0 : Int32) : Option (Int32 × hs) := (if x0 < (1 : Int32) then some ((0 : Int32), S) else (if (9 : Int32) < x0 then some ((0 : Int32), S) else some ((1 : Int32), S)))
theorem c_X_isWide (w : Wd) (d : Nat) (c : cx)   (S : hs) (x0 : Int32)  {z : Int32 × hs} (H : f_X_isWide S x0 = some z) : Cl w (d + 1) m_X_isWide [.int x0] (mk c S) (some (.int z.1)) (mk c z.2) := by
  refine Cl.of (Nat.le_refl _) (Nat.le_refl _) (by decide +kernel) (Nat.le_of_ble_eq_true rfl) ?_
  unfold f_X_isWide at H
  generalize hN (mk c S) = n0
  generalize hZ (mk c S) = z0
  show J w (d + 1) m_X_isWide (n0, z0, some (.int z.1), mk c z.2) 0 [some (.int x0)] [] (mk c S)
  refine J.run b_X_isWide_0_2 k_X_isWide_0_2 rfl (show J w (d + 1) m_X_isWide (n0, z0, some (.int z.1), mk c z.2) 2 [some (.int x0)] [.int (1 : Int32), .int x0] (mk c S) from ?_)
  refine J.clt (tgt := 15) d_X_isWide_2 rfl (fun q1 => ?_) (fun q1 => ?_)
  · have H := ite_t H q1
    refine J.run b_X_isWide_15_1 k_X_isWide_15_1 rfl (show J w (d + 1) m_X_isWide (n0, z0, some (.int z.1), mk c z.2) 16 [some (.int x0)] [.int (0 : Int32)] (mk c S) from ?_)
    obtain rfl := some_e H
    exact J.nret d_X_isWide_16 rfl rfl rfl
  · have H := ite_f H q1
    refine J.run b_X_isWide_5_2 k_X_isWide_5_2 rfl (show J w (d + 1) m_X_isWide (n0, z0, some (.int z.1), mk c z.2) 8 [some (.int x0)] [.int (9 : Int32), .int x0] (mk c S) from ?_)
    refine J.cgt (tgt := 15) d_X_isWide_8 rfl (fun q2 => ?_) (fun q2 => ?_)
    · have H := ite_t H q2
      refine J.run b_X_isWide_15_1 k_X_isWide_15_1 rfl (show J w (d + 1) m_X_isWide (n0, z0, some (.int z.1), mk c z.2) 16 [some (.int x0)] [.int (0 : Int32)] (mk c S) from ?_)
      obtain rfl := some_e H
      exact J.nret d_X_isWide_16 rfl rfl rfl
    · have H := ite_f H q2
      refine J.run b_X_isWide_11_1 k_X_isWide_11_1 rfl (show J w (d + 1) m_X_isWide (n0, z0, some (.int z.1), mk c z.2) 12 [some (.int x0)] [.int (1 : Int32)] (mk c S) from ?_)
      refine J.goto (tgt := 16) d_X_isWide_12 rfl ?_
      obtain rfl := some_e H
      exact J.nret d_X_isWide_16 rfl rfl rfl
def b_X_street_0_3 : List Ins := [(.aload_n 0, 0, 0, 0), (.getfield 10, 0, 0, 2), (.iload_n 1, 0, 0, 0)]
theorem k_X_street_0_3 : bok m_X_street 0 b_X_street_0_3 = true := by decide +kernel
def b_X_street_34_1 : List Ins := [(.iconst (-1), 0, 0, 0)]
theorem k_X_street_34_1 : bok m_X_street 34 b_X_street_34_1 = true := by decide +kernel
def b_X_street_11_3 : List Ins := [(.aload_n 0, 0, 0, 0), (.getfield 10, 0, 0, 2), (.iload_n 2, 0, 0, 0)]
theorem k_X_street_11_3 : bok m_X_street 11 b_X_street_11_3 = true := by decide +kernel
def b_X_street_22_2 : List Ins := [(.iload_n 1, 0, 0, 0), (.iload_n 2, 0, 0, 0)]
theorem k_X_street_22_2 : bok m_X_street 22 b_X_street_22_2 = true := by decide +kernel
def b_X_street_27_1 : List Ins := [(.iload_n 3, 0, 0, 0)]
theorem k_X_street_27_1 : bok m_X_street 27 b_X_street_27_1 = true := by decide +kernel
def b_X_street_36_4 : List Ins := [(.aload_n 0, 0, 0, 0), (.getfield 10, 0, 0, 2), (.getfield 85, 1, 6, 0), (.bipush (20), 0, 0, 0)]
theorem k_X_street_36_4 : bok m_X_street 36 b_X_street_36_4 = true := by decide +kernel
def b_X_street_53_6 : List Ins := [(.aload_n 0, 0, 0, 0), (.getfield 10, 0, 0, 2), (.iload_n 1, 0, 0, 0), (.iload_n 2, 0, 0, 0), (.iload_n 3, 0, 0, 0), (.iload 4, 0, 0, 0)]
theorem k_X_street_53_6 : bok m_X_street 53 b_X_street_53_6 = true := by decide +kernel
def b_X_street_48_1 : List Ins := [(.bipush (-2), 0, 0, 0)]
theorem k_X_street_48_1 : bok m_X_street 48 b_X_street_48_1 = true := by decide +kernel
theorem d_X_street_5 : decode m_X_street.2.1 5 = .ok (.invokevirtual 68, 3) := by decide +kernel
theorem d_X_street_8 : decode m_X_street.2.1 8 = .ok (.ifCond .eq (26), 3) := by decide +kernel
theorem d_X_street_35 : decode m_X_street.2.1 35 = .ok (.ireturn, 1) := by decide +kernel
theorem d_X_street_16 : decode m_X_street.2.1 16 = .ok (.invokevirtual 68, 3) := by decide +kernel
theorem d_X_street_19 : decode m_X_street.2.1 19 = .ok (.ifCond .eq (15), 3) := by decide +kernel
theorem d_X_street_24 : decode m_X_street.2.1 24 = .ok (.if_icmp .eq (10), 3) := by decide +kernel
theorem d_X_street_28 : decode m_X_street.2.1 28 = .ok (.invokestatic 82, 3) := by decide +kernel
theorem d_X_street_31 : decode m_X_street.2.1 31 = .ok (.ifCond .ne (5), 3) := by decide +kernel
theorem d_X_street_45 : decode m_X_street.2.1 45 = .ok (.if_icmp .lt (8), 3) := by decide +kernel
theorem d_X_street_62 : decode m_X_street.2.1 62 = .ok (.invokevirtual 88, 3) := by decide +kernel
theorem d_X_street_65 : decode m_X_street.2.1 65 = .ok (.ireturn, 1) := by decide +kernel
theorem d_X_street_50 : decode m_X_street.2.1 50 = .ok (.goto (15), 3) := by decide +kernel
def f_X_street  (S : hs) (x1 : Int32) (x2 : Int32) (x3 : Int32) (x4 : Int32) : Option (Int32 × hs) := bd (f_T_hasCrossing  S x1) fun r1 S2 => (if r1 = 0 then some ((-1 : Int32), S2) else bd (f_T_hasCrossing  S2 x2) fun r5 S6 => (if r5 = 0 then some ((-1 : Int32), S6) else (if x1 = x2 then some ((-1 : Int32), S6) else bd (f_X_isWide  S6 x3) fun r10 S11 => (if r10 = 0 then some ((-1 : Int32), S11) else (if (gI S11 34 6) < (20 : Int32) then bd (f_T_addStreet  S11 x1 x2 x3 x4) fun r15 S16 => some (r15, S16) else some ((-2 : Int32), S11))))))
theorem c_X_street (w : Wd) (d : Nat) (c : cx)   (S : hs) (x1 : Int32) (x2 : Int32) (x3 : Int32) (x4 : Int32)  {z : Int32 × hs} (H : f_X_street S x1 x2 x3 x4 = some z) : Cl w (d + 3) m_X_street [.ref 33, .int x1, .int x2, .int x3, .int x4] (mk c S) (some (.int z.1)) (mk c z.2) := by
  refine Cl.of (Nat.le_refl _) (Nat.le_refl _) (by decide +kernel) (Nat.le_of_ble_eq_true rfl) ?_
  unfold f_X_street at H
  generalize hN (mk c S) = n0
  generalize hZ (mk c S) = z0
  show J w (d + 3) m_X_street (n0, z0, some (.int z.1), mk c z.2) 0 [some (.ref 33), some (.int x1), some (.int x2), some (.int x3), some (.int x4)] [] (mk c S)
  refine J.run b_X_street_0_3 k_X_street_0_3 rfl (And.intro (okO_st (S := S) rfl) (show J w (d + 3) m_X_street (n0, z0, some (.int z.1), mk c z.2) 5 [some (.ref 33), some (.int x1), some (.int x2), some (.int x3), some (.int x4)] [.int x1, .ref 34] (mk c S) from ?_))
  obtain ⟨r1, S2, h3, H⟩ := bd_e H
  refine J.callV (y := m_T_hasCrossing) (av := [.int x1]) (rest := []) (q := 34) l_X_68 d_X_street_5 (isC_st rfl rfl) (c_T_hasCrossing w (d + 1) c  S x1 h3) rfl (Nat.le_of_ble_eq_true rfl) ⟨Nat.le_refl _, Nat.le_refl _⟩ (show J w (d + 3) m_X_street (n0, z0, some (.int z.1), mk c z.2) 8 [some (.ref 33), some (.int x1), some (.int x2), some (.int x3), some (.int x4)] [.int r1] (mk c S2) from ?_)
  refine J.zeq (tgt := 34) d_X_street_8 rfl (fun q4 => ?_) (fun q4 => ?_)
  · have H := ite_t H q4
    refine J.run b_X_street_34_1 k_X_street_34_1 rfl (show J w (d + 3) m_X_street (n0, z0, some (.int z.1), mk c z.2) 35 [some (.ref 33), some (.int x1), some (.int x2), some (.int x3), some (.int x4)] [.int (-1 : Int32)] (mk c S2) from ?_)
    obtain rfl := some_e H
    exact J.iret d_X_street_35 rfl rfl
  · have H := ite_f H q4
    refine J.run b_X_street_11_3 k_X_street_11_3 rfl (And.intro (okO_st (S := S2) rfl) (show J w (d + 3) m_X_street (n0, z0, some (.int z.1), mk c z.2) 16 [some (.ref 33), some (.int x1), some (.int x2), some (.int x3), some (.int x4)] [.int x2, .ref 34] (mk c S2) from ?_))
    obtain ⟨r5, S6, h7, H⟩ := bd_e H
    refine J.callV (y := m_T_hasCrossing) (av := [.int x2]) (rest := []) (q := 34) l_X_68 d_X_street_16 (isC_st rfl rfl) (c_T_hasCrossing w (d + 1) c  S2 x2 h7) rfl (Nat.le_of_ble_eq_true rfl) ⟨Nat.le_refl _, Nat.le_refl _⟩ (show J w (d + 3) m_X_street (n0, z0, some (.int z.1), mk c z.2) 19 [some (.ref 33), some (.int x1), some (.int x2), some (.int x3), some (.int x4)] [.int r5] (mk c S6) from ?_)
    refine J.zeq (tgt := 34) d_X_street_19 rfl (fun q8 => ?_) (fun q8 => ?_)
    · have H := ite_t H q8
      refine J.run b_X_street_34_1 k_X_street_34_1 rfl (show J w (d + 3) m_X_street (n0, z0, some (.int z.1), mk c z.2) 35 [some (.ref 33), some (.int x1), some (.int x2), some (.int x3), some (.int x4)] [.int (-1 : Int32)] (mk c S6) from ?_)
      obtain rfl := some_e H
      exact J.iret d_X_street_35 rfl rfl
    · have H := ite_f H q8
      refine J.run b_X_street_22_2 k_X_street_22_2 rfl (show J w (d + 3) m_X_street (n0, z0, some (.int z.1), mk c z.2) 24 [some (.ref 33), some (.int x1), some (.int x2), some (.int x3), some (.int x4)] [.int x2, .int x1] (mk c S6) from ?_)
      refine J.ceq (tgt := 34) d_X_street_24 rfl (fun q9 => ?_) (fun q9 => ?_)
      · have H := ite_t H q9
        refine J.run b_X_street_34_1 k_X_street_34_1 rfl (show J w (d + 3) m_X_street (n0, z0, some (.int z.1), mk c z.2) 35 [some (.ref 33), some (.int x1), some (.int x2), some (.int x3), some (.int x4)] [.int (-1 : Int32)] (mk c S6) from ?_)
        obtain rfl := some_e H
        exact J.iret d_X_street_35 rfl rfl
      · have H := ite_f H q9
        refine J.run b_X_street_27_1 k_X_street_27_1 rfl (show J w (d + 3) m_X_street (n0, z0, some (.int z.1), mk c z.2) 28 [some (.ref 33), some (.int x1), some (.int x2), some (.int x3), some (.int x4)] [.int x3] (mk c S6) from ?_)
        obtain ⟨r10, S11, h12, H⟩ := bd_e H
        refine J.callS (y := m_X_isWide) (av := [.int x3]) (rest := []) l_X_82 d_X_street_28 (c_X_isWide w (d + 1) c  S6 x3 h12) rfl (Nat.le_of_ble_eq_true rfl) ⟨Nat.le_refl _, Nat.le_refl _⟩ (show J w (d + 3) m_X_street (n0, z0, some (.int z.1), mk c z.2) 31 [some (.ref 33), some (.int x1), some (.int x2), some (.int x3), some (.int x4)] [.int r10] (mk c S11) from ?_)
        refine J.zne (tgt := 36) d_X_street_31 rfl (fun q13 => ?_) (fun q13 => ?_)
        · have H := ite_f H q13
          refine J.run b_X_street_36_4 k_X_street_36_4 rfl (And.intro (okO_st (S := S11) rfl) (And.intro (okO_st (S := S11) rfl) (show J w (d + 3) m_X_street (n0, z0, some (.int z.1), mk c z.2) 45 [some (.ref 33), some (.int x1), some (.int x2), some (.int x3), some (.int x4)] [.int (20 : Int32), .int (gI S11 34 6)] (mk c S11) from ?_)))
          refine J.clt (tgt := 53) d_X_street_45 rfl (fun q14 => ?_) (fun q14 => ?_)
          · have H := ite_t H q14
            refine J.run b_X_street_53_6 k_X_street_53_6 rfl (And.intro (okO_st (S := S11) rfl) (show J w (d + 3) m_X_street (n0, z0, some (.int z.1), mk c z.2) 62 [some (.ref 33), some (.int x1), some (.int x2), some (.int x3), some (.int x4)] [.int x4, .int x3, .int x2, .int x1, .ref 34] (mk c S11) from ?_))
            obtain ⟨r15, S16, h17, H⟩ := bd_e H
            refine J.callV (y := m_T_addStreet) (av := [.int x1, .int x2, .int x3, .int x4]) (rest := []) (q := 34) l_X_88 d_X_street_62 (isC_st rfl rfl) (c_T_addStreet w (d + 0) c  S11 x1 x2 x3 x4 h17) rfl (Nat.le_of_ble_eq_true rfl) ⟨Nat.le_refl _, Nat.le_refl _⟩ (show J w (d + 3) m_X_street (n0, z0, some (.int z.1), mk c z.2) 65 [some (.ref 33), some (.int x1), some (.int x2), some (.int x3), some (.int x4)] [.int r15] (mk c S16) from ?_)
            obtain rfl := some_e H
            exact J.iret d_X_street_65 rfl rfl
          · have H := ite_f H q14
            refine J.run b_X_street_48_1 k_X_street_48_1 rfl (show J w (d + 3) m_X_street (n0, z0, some (.int z.1), mk c z.2) 50 [some (.ref 33), some (.int x1), some (.int x2), some (.int x3), some (.int x4)] [.int (-2 : Int32)] (mk c S11) from ?_)
            refine J.goto (tgt := 65) d_X_street_50 rfl ?_
            obtain rfl := some_e H
            exact J.iret d_X_street_65 rfl rfl
        · have H := ite_t H q13
          refine J.run b_X_street_34_1 k_X_street_34_1 rfl (show J w (d + 3) m_X_street (n0, z0, some (.int z.1), mk c z.2) 35 [some (.ref 33), some (.int x1), some (.int x2), some (.int x3), some (.int x4)] [.int (-1 : Int32)] (mk c S11) from ?_)
          obtain rfl := some_e H
          exact J.iret d_X_street_35 rfl rfl
def b_X_streetOf_0_3 : List Ins := [(.aload_n 0, 0, 0, 0), (.getfield 10, 0, 0, 2), (.iload_n 1, 0, 0, 0)]
theorem k_X_streetOf_0_3 : bok m_X_streetOf 0 b_X_streetOf_0_3 = true := by decide +kernel
def b_X_streetOf_21_1 : List Ins := [(.iconst (-1), 0, 0, 0)]
theorem k_X_streetOf_21_1 : bok m_X_streetOf 21 b_X_streetOf_21_1 = true := by decide +kernel
def b_X_streetOf_11_1 : List Ins := [(.iload_n 2, 0, 0, 0)]
theorem k_X_streetOf_11_1 : bok m_X_streetOf 11 b_X_streetOf_11_1 = true := by decide +kernel
def b_X_streetOf_15_2 : List Ins := [(.iload_n 2, 0, 0, 0), (.bipush (6), 0, 0, 0)]
theorem k_X_streetOf_15_2 : bok m_X_streetOf 15 b_X_streetOf_15_2 = true := by decide +kernel
def b_X_streetOf_23_7 : List Ins := [(.aload_n 0, 0, 0, 0), (.getfield 10, 0, 0, 2), (.getfield 95, 1, 1, 2), (.iload_n 1, 0, 0, 0), (.aaload, 0, 0, 0), (.iload_n 2, 0, 0, 0), (.iaload, 0, 0, 0)]
theorem k_X_streetOf_23_7 : bok m_X_streetOf 23 b_X_streetOf_23_7 = true := by decide +kernel
theorem d_X_streetOf_5 : decode m_X_streetOf.2.1 5 = .ok (.invokevirtual 92, 3) := by decide +kernel
theorem d_X_streetOf_8 : decode m_X_streetOf.2.1 8 = .ok (.ifCond .eq (13), 3) := by decide +kernel
theorem d_X_streetOf_22 : decode m_X_streetOf.2.1 22 = .ok (.ireturn, 1) := by decide +kernel
theorem d_X_streetOf_12 : decode m_X_streetOf.2.1 12 = .ok (.ifCond .lt (9), 3) := by decide +kernel
theorem d_X_streetOf_18 : decode m_X_streetOf.2.1 18 = .ok (.if_icmp .lt (5), 3) := by decide +kernel
theorem d_X_streetOf_34 : decode m_X_streetOf.2.1 34 = .ok (.ireturn, 1) := by decide +kernel
def f_X_streetOf  (S : hs) (x1 : Int32) (x2 : Int32) : Option (Int32 × hs) := bd (f_T_hasStreet  S x1) fun r1 S2 => (if r1 = 0 then some ((-1 : Int32), S2) else (if x2 < 0 then some ((-1 : Int32), S2) else (if x2 < (6 : Int32) then ck (inb x1 20) (ck (inb x2 8) (some ((gI S2 (49 + (x1).toNatClampNeg) (x2).toNatClampNeg), S2))) else some ((-1 : Int32), S2))))
theorem c_X_streetOf (w : Wd) (d : Nat) (c : cx)   (S : hs) (x1 : Int32) (x2 : Int32)  {z : Int32 × hs} (H : f_X_streetOf S x1 x2 = some z) : Cl w (d + 2) m_X_streetOf [.ref 33, .int x1, .int x2] (mk c S) (some (.int z.1)) (mk c z.2) := by
  refine Cl.of (Nat.le_refl _) (Nat.le_refl _) (by decide +kernel) (Nat.le_of_ble_eq_true rfl) ?_
  unfold f_X_streetOf at H
  generalize hN (mk c S) = n0
  generalize hZ (mk c S) = z0
  show J w (d + 2) m_X_streetOf (n0, z0, some (.int z.1), mk c z.2) 0 [some (.ref 33), some (.int x1), some (.int x2)] [] (mk c S)
  refine J.run b_X_streetOf_0_3 k_X_streetOf_0_3 rfl (And.intro (okO_st (S := S) rfl) (show J w (d + 2) m_X_streetOf (n0, z0, some (.int z.1), mk c z.2) 5 [some (.ref 33), some (.int x1), some (.int x2)] [.int x1, .ref 34] (mk c S) from ?_))
  obtain ⟨r1, S2, h3, H⟩ := bd_e H
  refine J.callV (y := m_T_hasStreet) (av := [.int x1]) (rest := []) (q := 34) l_X_92 d_X_streetOf_5 (isC_st rfl rfl) (c_T_hasStreet w (d + 0) c  S x1 h3) rfl (Nat.le_of_ble_eq_true rfl) ⟨Nat.le_refl _, Nat.le_refl _⟩ (show J w (d + 2) m_X_streetOf (n0, z0, some (.int z.1), mk c z.2) 8 [some (.ref 33), some (.int x1), some (.int x2)] [.int r1] (mk c S2) from ?_)
  refine J.zeq (tgt := 21) d_X_streetOf_8 rfl (fun q4 => ?_) (fun q4 => ?_)
  · have H := ite_t H q4
    refine J.run b_X_streetOf_21_1 k_X_streetOf_21_1 rfl (show J w (d + 2) m_X_streetOf (n0, z0, some (.int z.1), mk c z.2) 22 [some (.ref 33), some (.int x1), some (.int x2)] [.int (-1 : Int32)] (mk c S2) from ?_)
    obtain rfl := some_e H
    exact J.iret d_X_streetOf_22 rfl rfl
  · have H := ite_f H q4
    refine J.run b_X_streetOf_11_1 k_X_streetOf_11_1 rfl (show J w (d + 2) m_X_streetOf (n0, z0, some (.int z.1), mk c z.2) 12 [some (.ref 33), some (.int x1), some (.int x2)] [.int x2] (mk c S2) from ?_)
    refine J.zlt (tgt := 21) d_X_streetOf_12 rfl (fun q5 => ?_) (fun q5 => ?_)
    · have H := ite_t H q5
      refine J.run b_X_streetOf_21_1 k_X_streetOf_21_1 rfl (show J w (d + 2) m_X_streetOf (n0, z0, some (.int z.1), mk c z.2) 22 [some (.ref 33), some (.int x1), some (.int x2)] [.int (-1 : Int32)] (mk c S2) from ?_)
      obtain rfl := some_e H
      exact J.iret d_X_streetOf_22 rfl rfl
    · have H := ite_f H q5
      refine J.run b_X_streetOf_15_2 k_X_streetOf_15_2 rfl (show J w (d + 2) m_X_streetOf (n0, z0, some (.int z.1), mk c z.2) 18 [some (.ref 33), some (.int x1), some (.int x2)] [.int (6 : Int32), .int x2] (mk c S2) from ?_)
      refine J.clt (tgt := 23) d_X_streetOf_18 rfl (fun q6 => ?_) (fun q6 => ?_)
      · have H := ite_t H q6
        obtain ⟨g7, H⟩ := ck_e H
        obtain ⟨g8, H⟩ := ck_e H
        refine J.run b_X_streetOf_23_7 k_X_streetOf_23_7 rfl (And.intro (okO_st (S := S2) rfl) (And.intro (okO_st (S := S2) rfl) (And.intro (okQ_st (S := S2) (k := 23) (n := 20) rfl rfl g7) (And.intro (okA_row (S := S2) (b := 49) (cnt := 20) (n := 8) rfl (inb_lt g7) g8) (show J w (d + 2) m_X_streetOf (n0, z0, some (.int z.1), mk c z.2) 34 [some (.ref 33), some (.int x1), some (.int x2)] [.int (gI S2 (49 + (x1).toNatClampNeg) (x2).toNatClampNeg)] (mk c S2) from ?_)))))
        obtain rfl := some_e H
        exact J.iret d_X_streetOf_34 rfl rfl
      · have H := ite_f H q6
        refine J.run b_X_streetOf_21_1 k_X_streetOf_21_1 rfl (show J w (d + 2) m_X_streetOf (n0, z0, some (.int z.1), mk c z.2) 22 [some (.ref 33), some (.int x1), some (.int x2)] [.int (-1 : Int32)] (mk c S2) from ?_)
        obtain rfl := some_e H
        exact J.iret d_X_streetOf_22 rfl rfl
def b_X_shut_0_3 : List Ins := [(.aload_n 0, 0, 0, 0), (.getfield 10, 0, 0, 2), (.iload_n 1, 0, 0, 0)]
theorem k_X_shut_0_3 : bok m_X_shut 0 b_X_shut_0_3 = true := by decide +kernel
def b_X_shut_13_15 : List Ins := [(.aload_n 0, 0, 0, 0), (.getfield 10, 0, 0, 2), (.getfield 95, 1, 1, 2), (.iload_n 1, 0, 0, 0), (.aaload, 0, 0, 0), (.iconst (5), 0, 0, 0), (.iaload, 0, 0, 0), (.istore_n 3, 0, 0, 0), (.aload_n 0, 0, 0, 0), (.getfield 10, 0, 0, 2), (.getfield 95, 1, 1, 2), (.iload_n 1, 0, 0, 0), (.aaload, 0, 0, 0), (.iconst (5), 0, 0, 0), (.iload_n 2, 0, 0, 0)]
theorem k_X_shut_13_15 : bok m_X_shut 13 b_X_shut_13_15 = true := by decide +kernel
def b_X_shut_43_10 : List Ins := [(.iconst (0), 0, 0, 0), (.iastore, 0, 0, 0), (.iload_n 3, 0, 0, 0), (.aload_n 0, 0, 0, 0), (.getfield 10, 0, 0, 2), (.getfield 95, 1, 1, 2), (.iload_n 1, 0, 0, 0), (.aaload, 0, 0, 0), (.iconst (5), 0, 0, 0), (.iaload, 0, 0, 0)]
theorem k_X_shut_43_10 : bok m_X_shut 43 b_X_shut_43_10 = true := by decide +kernel
def b_X_shut_64_1 : List Ins := [(.iconst (1), 0, 0, 0)]
theorem k_X_shut_64_1 : bok m_X_shut 64 b_X_shut_64_1 = true := by decide +kernel
def b_X_shut_60_1 : List Ins := [(.iconst (0), 0, 0, 0)]
theorem k_X_shut_60_1 : bok m_X_shut 60 b_X_shut_60_1 = true := by decide +kernel
def b_X_shut_39_1 : List Ins := [(.iconst (1), 0, 0, 0)]
theorem k_X_shut_39_1 : bok m_X_shut 39 b_X_shut_39_1 = true := by decide +kernel
def b_X_shut_44_9 : List Ins := [(.iastore, 0, 0, 0), (.iload_n 3, 0, 0, 0), (.aload_n 0, 0, 0, 0), (.getfield 10, 0, 0, 2), (.getfield 95, 1, 1, 2), (.iload_n 1, 0, 0, 0), (.aaload, 0, 0, 0), (.iconst (5), 0, 0, 0), (.iaload, 0, 0, 0)]
theorem k_X_shut_44_9 : bok m_X_shut 44 b_X_shut_44_9 = true := by decide +kernel
def b_X_shut_11_1 : List Ins := [(.iconst (-1), 0, 0, 0)]
theorem k_X_shut_11_1 : bok m_X_shut 11 b_X_shut_11_1 = true := by decide +kernel
theorem d_X_shut_5 : decode m_X_shut.2.1 5 = .ok (.invokevirtual 92, 3) := by decide +kernel
theorem d_X_shut_8 : decode m_X_shut.2.1 8 = .ok (.ifCond .ne (5), 3) := by decide +kernel
theorem d_X_shut_36 : decode m_X_shut.2.1 36 = .ok (.ifCond .eq (7), 3) := by decide +kernel
theorem d_X_shut_57 : decode m_X_shut.2.1 57 = .ok (.if_icmp .ne (7), 3) := by decide +kernel
theorem d_X_shut_65 : decode m_X_shut.2.1 65 = .ok (.ireturn, 1) := by decide +kernel
theorem d_X_shut_61 : decode m_X_shut.2.1 61 = .ok (.goto (4), 3) := by decide +kernel
theorem d_X_shut_40 : decode m_X_shut.2.1 40 = .ok (.goto (4), 3) := by decide +kernel
theorem d_X_shut_12 : decode m_X_shut.2.1 12 = .ok (.ireturn, 1) := by decide +kernel
def f_X_shut  (S : hs) (x1 : Int32) (x2 : Int32) : Option (Int32 × hs) := bd (f_T_hasStreet  S x1) fun r1 S2 => (if r1 = 0 then some ((-1 : Int32), S2) else ck (inb x1 20) ((if x2 = 0 then (if (gI S2 (49 + (x1).toNatClampNeg) 5) = (gI (uI S2 (49 + (x1).toNatClampNeg) 5 (0 : Int32)) (49 + (x1).toNatClampNeg) 5) then some ((0 : Int32), (uI S2 (49 + (x1).toNatClampNeg) 5 (0 : Int32))) else some ((1 : Int32), (uI S2 (49 + (x1).toNatClampNeg) 5 (0 : Int32)))) else (if (gI S2 (49 + (x1).toNatClampNeg) 5) = (gI (uI S2 (49 + (x1).toNatClampNeg) 5 (1 : Int32)) (49 + (x1).toNatClampNeg) 5) then some ((0 : Int32), (uI S2 (49 + (x1).toNatClampNeg) 5 (1 : Int32))) else some ((1 : Int32), (uI S2 (49 + (x1).toNatClampNeg) 5 (1 : Int32)))))))
theorem c_X_shut (w : Wd) (d : Nat) (c : cx)   (S : hs) (x1 : Int32) (x2 : Int32)  {z : Int32 × hs} (H : f_X_shut S x1 x2 = some z) : Cl w (d + 2) m_X_shut [.ref 33, .int x1, .int x2] (mk c S) (some (.int z.1)) (mk c z.2) := by
  refine Cl.of (Nat.le_refl _) (Nat.le_refl _) (by decide +kernel) (Nat.le_of_ble_eq_true rfl) ?_
  unfold f_X_shut at H
  generalize hN (mk c S) = n0
  generalize hZ (mk c S) = z0
  show J w (d + 2) m_X_shut (n0, z0, some (.int z.1), mk c z.2) 0 [some (.ref 33), some (.int x1), some (.int x2), none] [] (mk c S)
  refine J.run b_X_shut_0_3 k_X_shut_0_3 rfl (And.intro (okO_st (S := S) rfl) (show J w (d + 2) m_X_shut (n0, z0, some (.int z.1), mk c z.2) 5 [some (.ref 33), some (.int x1), some (.int x2), none] [.int x1, .ref 34] (mk c S) from ?_))
  obtain ⟨r1, S2, h3, H⟩ := bd_e H
  refine J.callV (y := m_T_hasStreet) (av := [.int x1]) (rest := []) (q := 34) l_X_92 d_X_shut_5 (isC_st rfl rfl) (c_T_hasStreet w (d + 0) c  S x1 h3) rfl (Nat.le_of_ble_eq_true rfl) ⟨Nat.le_refl _, Nat.le_refl _⟩ (show J w (d + 2) m_X_shut (n0, z0, some (.int z.1), mk c z.2) 8 [some (.ref 33), some (.int x1), some (.int x2), none] [.int r1] (mk c S2) from ?_)
  refine J.zne (tgt := 13) d_X_shut_8 rfl (fun q4 => ?_) (fun q4 => ?_)
  · have H := ite_f H q4
    obtain ⟨g5, H⟩ := ck_e H
    refine J.run b_X_shut_13_15 k_X_shut_13_15 rfl (And.intro (okO_st (S := S2) rfl) (And.intro (okO_st (S := S2) rfl) (And.intro (okQ_st (S := S2) (k := 23) (n := 20) rfl rfl g5) (And.intro (okA_row (S := S2) (b := 49) (cnt := 20) (n := 8) rfl (inb_lt g5) rfl) (And.intro (okO_st (S := S2) rfl) (And.intro (okO_st (S := S2) rfl) (And.intro (okQ_st (S := S2) (k := 23) (n := 20) rfl rfl g5) (show J w (d + 2) m_X_shut (n0, z0, some (.int z.1), mk c z.2) 36 [some (.ref 33), some (.int x1), some (.int x2), some (.int (gI S2 (49 + (x1).toNatClampNeg) 5))] [.int x2, .int (5 : Int32), .ref (49 + (x1).toNatClampNeg)] (mk c S2) from ?_))))))))
    refine J.zeq (tgt := 43) d_X_shut_36 rfl (fun q6 => ?_) (fun q6 => ?_)
    · have H := ite_t H q6
      refine J.run b_X_shut_43_10 k_X_shut_43_10 rfl (And.intro (okB_row (S := S2) (b := 49) (cnt := 20) (n := 8) rfl (inb_lt g5) rfl) (And.intro (okO_st (S := (uI S2 (49 + (x1).toNatClampNeg) 5 (0 : Int32))) rfl) (And.intro (okO_st (S := (uI S2 (49 + (x1).toNatClampNeg) 5 (0 : Int32))) rfl) (And.intro (okQ_st (S := (uI S2 (49 + (x1).toNatClampNeg) 5 (0 : Int32))) (k := 23) (n := 20) rfl rfl g5) (And.intro (okA_row (S := (uI S2 (49 + (x1).toNatClampNeg) 5 (0 : Int32))) (b := 49) (cnt := 20) (n := 8) rfl (inb_lt g5) rfl) (show J w (d + 2) m_X_shut (n0, z0, some (.int z.1), mk c z.2) 57 [some (.ref 33), some (.int x1), some (.int x2), some (.int (gI S2 (49 + (x1).toNatClampNeg) 5))] [.int (gI (uI S2 (49 + (x1).toNatClampNeg) 5 (0 : Int32)) (49 + (x1).toNatClampNeg) 5), .int (gI S2 (49 + (x1).toNatClampNeg) 5)] (mk c (uI S2 (49 + (x1).toNatClampNeg) 5 (0 : Int32))) from ?_))))))
      refine J.cne (tgt := 64) d_X_shut_57 rfl (fun q7 => ?_) (fun q7 => ?_)
      · have H := ite_f H q7
        refine J.run b_X_shut_64_1 k_X_shut_64_1 rfl (show J w (d + 2) m_X_shut (n0, z0, some (.int z.1), mk c z.2) 65 [some (.ref 33), some (.int x1), some (.int x2), some (.int (gI S2 (49 + (x1).toNatClampNeg) 5))] [.int (1 : Int32)] (mk c (uI S2 (49 + (x1).toNatClampNeg) 5 (0 : Int32))) from ?_)
        obtain rfl := some_e H
        exact J.iret d_X_shut_65 rfl rfl
      · have H := ite_t H q7
        refine J.run b_X_shut_60_1 k_X_shut_60_1 rfl (show J w (d + 2) m_X_shut (n0, z0, some (.int z.1), mk c z.2) 61 [some (.ref 33), some (.int x1), some (.int x2), some (.int (gI S2 (49 + (x1).toNatClampNeg) 5))] [.int (0 : Int32)] (mk c (uI S2 (49 + (x1).toNatClampNeg) 5 (0 : Int32))) from ?_)
        refine J.goto (tgt := 65) d_X_shut_61 rfl ?_
        obtain rfl := some_e H
        exact J.iret d_X_shut_65 rfl rfl
    · have H := ite_f H q6
      refine J.run b_X_shut_39_1 k_X_shut_39_1 rfl (show J w (d + 2) m_X_shut (n0, z0, some (.int z.1), mk c z.2) 40 [some (.ref 33), some (.int x1), some (.int x2), some (.int (gI S2 (49 + (x1).toNatClampNeg) 5))] [.int (1 : Int32), .int (5 : Int32), .ref (49 + (x1).toNatClampNeg)] (mk c S2) from ?_)
      refine J.goto (tgt := 44) d_X_shut_40 rfl ?_
      refine J.run b_X_shut_44_9 k_X_shut_44_9 rfl (And.intro (okB_row (S := S2) (b := 49) (cnt := 20) (n := 8) rfl (inb_lt g5) rfl) (And.intro (okO_st (S := (uI S2 (49 + (x1).toNatClampNeg) 5 (1 : Int32))) rfl) (And.intro (okO_st (S := (uI S2 (49 + (x1).toNatClampNeg) 5 (1 : Int32))) rfl) (And.intro (okQ_st (S := (uI S2 (49 + (x1).toNatClampNeg) 5 (1 : Int32))) (k := 23) (n := 20) rfl rfl g5) (And.intro (okA_row (S := (uI S2 (49 + (x1).toNatClampNeg) 5 (1 : Int32))) (b := 49) (cnt := 20) (n := 8) rfl (inb_lt g5) rfl) (show J w (d + 2) m_X_shut (n0, z0, some (.int z.1), mk c z.2) 57 [some (.ref 33), some (.int x1), some (.int x2), some (.int (gI S2 (49 + (x1).toNatClampNeg) 5))] [.int (gI (uI S2 (49 + (x1).toNatClampNeg) 5 (1 : Int32)) (49 + (x1).toNatClampNeg) 5), .int (gI S2 (49 + (x1).toNatClampNeg) 5)] (mk c (uI S2 (49 + (x1).toNatClampNeg) 5 (1 : Int32))) from ?_))))))
      refine J.cne (tgt := 64) d_X_shut_57 rfl (fun q8 => ?_) (fun q8 => ?_)
      · have H := ite_f H q8
        refine J.run b_X_shut_64_1 k_X_shut_64_1 rfl (show J w (d + 2) m_X_shut (n0, z0, some (.int z.1), mk c z.2) 65 [some (.ref 33), some (.int x1), some (.int x2), some (.int (gI S2 (49 + (x1).toNatClampNeg) 5))] [.int (1 : Int32)] (mk c (uI S2 (49 + (x1).toNatClampNeg) 5 (1 : Int32))) from ?_)
        obtain rfl := some_e H
        exact J.iret d_X_shut_65 rfl rfl
      · have H := ite_t H q8
        refine J.run b_X_shut_60_1 k_X_shut_60_1 rfl (show J w (d + 2) m_X_shut (n0, z0, some (.int z.1), mk c z.2) 61 [some (.ref 33), some (.int x1), some (.int x2), some (.int (gI S2 (49 + (x1).toNatClampNeg) 5))] [.int (0 : Int32)] (mk c (uI S2 (49 + (x1).toNatClampNeg) 5 (1 : Int32))) from ?_)
        refine J.goto (tgt := 65) d_X_shut_61 rfl ?_
        obtain rfl := some_e H
        exact J.iret d_X_shut_65 rfl rfl
  · have H := ite_t H q4
    refine J.run b_X_shut_11_1 k_X_shut_11_1 rfl (show J w (d + 2) m_X_shut (n0, z0, some (.int z.1), mk c z.2) 12 [some (.ref 33), some (.int x1), some (.int x2), none] [.int (-1 : Int32)] (mk c S2) from ?_)
    obtain rfl := some_e H
    exact J.iret d_X_shut_12 rfl rfl
def b_X_widen_0_3 : List Ins := [(.aload_n 0, 0, 0, 0), (.getfield 10, 0, 0, 2), (.iload_n 1, 0, 0, 0)]
theorem k_X_widen_0_3 : bok m_X_widen 0 b_X_widen_0_3 = true := by decide +kernel
def b_X_widen_18_1 : List Ins := [(.iconst (-1), 0, 0, 0)]
theorem k_X_widen_18_1 : bok m_X_widen 18 b_X_widen_18_1 = true := by decide +kernel
def b_X_widen_11_1 : List Ins := [(.iload_n 2, 0, 0, 0)]
theorem k_X_widen_11_1 : bok m_X_widen 11 b_X_widen_11_1 = true := by decide +kernel
def b_X_widen_20_17 : List Ins := [(.aload_n 0, 0, 0, 0), (.getfield 10, 0, 0, 2), (.getfield 95, 1, 1, 2), (.iload_n 1, 0, 0, 0), (.aaload, 0, 0, 0), (.iconst (2), 0, 0, 0), (.iaload, 0, 0, 0), (.istore_n 3, 0, 0, 0), (.aload_n 0, 0, 0, 0), (.getfield 10, 0, 0, 2), (.getfield 95, 1, 1, 2), (.iload_n 1, 0, 0, 0), (.aaload, 0, 0, 0), (.iconst (2), 0, 0, 0), (.iload_n 2, 0, 0, 0), (.iastore, 0, 0, 0), (.iload_n 3, 0, 0, 0)]
theorem k_X_widen_20_17 : bok m_X_widen 20 b_X_widen_20_17 = true := by decide +kernel
theorem d_X_widen_5 : decode m_X_widen.2.1 5 = .ok (.invokevirtual 92, 3) := by decide +kernel
theorem d_X_widen_8 : decode m_X_widen.2.1 8 = .ok (.ifCond .eq (10), 3) := by decide +kernel
theorem d_X_widen_19 : decode m_X_widen.2.1 19 = .ok (.ireturn, 1) := by decide +kernel
theorem d_X_widen_12 : decode m_X_widen.2.1 12 = .ok (.invokestatic 82, 3) := by decide +kernel
theorem d_X_widen_15 : decode m_X_widen.2.1 15 = .ok (.ifCond .ne (5), 3) := by decide +kernel
theorem d_X_widen_45 : decode m_X_widen.2.1 45 = .ok (.ireturn, 1) := by decide +kernel
def f_X_widen  (S : hs) (x1 : Int32) (x2 : Int32) : Option (Int32 × hs) := bd (f_T_hasStreet  S x1) fun r1 S2 => (if r1 = 0 then some ((-1 : Int32), S2) else bd (f_X_isWide  S2 x2) fun r5 S6 => (if r5 = 0 then some ((-1 : Int32), S6) else ck (inb x1 20) (some ((gI S6 (49 + (x1).toNatClampNeg) 2), (uI S6 (49 + (x1).toNatClampNeg) 2 x2)))))
theorem c_X_widen (w : Wd) (d : Nat) (c : cx)   (S : hs) (x1 : Int32) (x2 : Int32)  {z : Int32 × hs} (H : f_X_widen S x1 x2 = some z) : Cl w (d + 2) m_X_widen [.ref 33, .int x1, .int x2] (mk c S) (some (.int z.1)) (mk c z.2) := by
  refine Cl.of (Nat.le_refl _) (Nat.le_refl _) (by decide +kernel) (Nat.le_of_ble_eq_true rfl) ?_
  unfold f_X_widen at H
  generalize hN (mk c S) = n0
  generalize hZ (mk c S) = z0
  show J w (d + 2) m_X_widen (n0, z0, some (.int z.1), mk c z.2) 0 [some (.ref 33), some (.int x1), some (.int x2), none] [] (mk c S)
  refine J.run b_X_widen_0_3 k_X_widen_0_3 rfl (And.intro (okO_st (S := S) rfl) (show J w (d + 2) m_X_widen (n0, z0, some (.int z.1), mk c z.2) 5 [some (.ref 33), some (.int x1), some (.int x2), none] [.int x1, .ref 34] (mk c S) from ?_))
  obtain ⟨r1, S2, h3, H⟩ := bd_e H
  refine J.callV (y := m_T_hasStreet) (av := [.int x1]) (rest := []) (q := 34) l_X_92 d_X_widen_5 (isC_st rfl rfl) (c_T_hasStreet w (d + 0) c  S x1 h3) rfl (Nat.le_of_ble_eq_true rfl) ⟨Nat.le_refl _, Nat.le_refl _⟩ (show J w (d + 2) m_X_widen (n0, z0, some (.int z.1), mk c z.2) 8 [some (.ref 33), some (.int x1), some (.int x2), none] [.int r1] (mk c S2) from ?_)
  refine J.zeq (tgt := 18) d_X_widen_8 rfl (fun q4 => ?_) (fun q4 => ?_)
  · have H := ite_t H q4
    refine J.run b_X_widen_18_1 k_X_widen_18_1 rfl (show J w (d + 2) m_X_widen (n0, z0, some (.int z.1), mk c z.2) 19 [some (.ref 33), some (.int x1), some (.int x2), none] [.int (-1 : Int32)] (mk c S2) from ?_)
    obtain rfl := some_e H
    exact J.iret d_X_widen_19 rfl rfl
  · have H := ite_f H q4
    refine J.run b_X_widen_11_1 k_X_widen_11_1 rfl (show J w (d + 2) m_X_widen (n0, z0, some (.int z.1), mk c z.2) 12 [some (.ref 33), some (.int x1), some (.int x2), none] [.int x2] (mk c S2) from ?_)
    obtain ⟨r5, S6, h7, H⟩ := bd_e H
    refine J.callS (y := m_X_isWide) (av := [.int x2]) (rest := []) l_X_82 d_X_widen_12 (c_X_isWide w (d + 0) c  S2 x2 h7) rfl (Nat.le_of_ble_eq_true rfl) ⟨Nat.le_refl _, Nat.le_refl _⟩ (show J w (d + 2) m_X_widen (n0, z0, some (.int z.1), mk c z.2) 15 [some (.ref 33), some (.int x1), some (.int x2), none] [.int r5] (mk c S6) from ?_)
    refine J.zne (tgt := 20) d_X_widen_15 rfl (fun q8 => ?_) (fun q8 => ?_)
    · have H := ite_f H q8
      obtain ⟨g9, H⟩ := ck_e H
      refine J.run b_X_widen_20_17 k_X_widen_20_17 rfl (And.intro (okO_st (S := S6) rfl) (And.intro (okO_st (S := S6) rfl) (And.intro (okQ_st (S := S6) (k := 23) (n := 20) rfl rfl g9) (And.intro (okA_row (S := S6) (b := 49) (cnt := 20) (n := 8) rfl (inb_lt g9) rfl) (And.intro (okO_st (S := S6) rfl) (And.intro (okO_st (S := S6) rfl) (And.intro (okQ_st (S := S6) (k := 23) (n := 20) rfl rfl g9) (And.intro (okB_row (S := S6) (b := 49) (cnt := 20) (n := 8) rfl (inb_lt g9) rfl) (show J w (d + 2) m_X_widen (n0, z0, some (.int z.1), mk c z.2) 45 [some (.ref 33), some (.int x1), some (.int x2), some (.int (gI S6 (49 + (x1).toNatClampNeg) 2))] [.int (gI S6 (49 + (x1).toNatClampNeg) 2)] (mk c (uI S6 (49 + (x1).toNatClampNeg) 2 x2)) from ?_)))))))))
      obtain rfl := some_e H
      exact J.iret d_X_widen_45 rfl rfl
    · have H := ite_t H q8
      refine J.run b_X_widen_18_1 k_X_widen_18_1 rfl (show J w (d + 2) m_X_widen (n0, z0, some (.int z.1), mk c z.2) 19 [some (.ref 33), some (.int x1), some (.int x2), none] [.int (-1 : Int32)] (mk c S6) from ?_)
      obtain rfl := some_e H
      exact J.iret d_X_widen_19 rfl rfl
def b_X_day_0_1 : List Ins := [(.iload_n 1, 0, 0, 0)]
theorem k_X_day_0_1 : bok m_X_day 0 b_X_day_0_1 = true := by decide +kernel
def b_X_day_10_1 : List Ins := [(.iconst (-1), 0, 0, 0)]
theorem k_X_day_10_1 : bok m_X_day 10 b_X_day_10_1 = true := by decide +kernel
def b_X_day_4_2 : List Ins := [(.iload_n 1, 0, 0, 0), (.bipush (6), 0, 0, 0)]
theorem k_X_day_4_2 : bok m_X_day 4 b_X_day_4_2 = true := by decide +kernel
def b_X_day_12_9 : List Ins := [(.aload_n 0, 0, 0, 0), (.getfield 10, 0, 0, 2), (.getfield 98, 1, 8, 0), (.istore_n 2, 0, 0, 0), (.aload_n 0, 0, 0, 0), (.getfield 10, 0, 0, 2), (.iload_n 1, 0, 0, 0), (.putfield 98, 1, 8, 0), (.iload_n 2, 0, 0, 0)]
theorem k_X_day_12_9 : bok m_X_day 12 b_X_day_12_9 = true := by decide +kernel
theorem d_X_day_1 : decode m_X_day.2.1 1 = .ok (.ifCond .lt (9), 3) := by decide +kernel
theorem d_X_day_11 : decode m_X_day.2.1 11 = .ok (.ireturn, 1) := by decide +kernel
theorem d_X_day_7 : decode m_X_day.2.1 7 = .ok (.if_icmp .le (5), 3) := by decide +kernel
theorem d_X_day_29 : decode m_X_day.2.1 29 = .ok (.ireturn, 1) := by decide +kernel
def f_X_day  (S : hs) (x1 : Int32) : Option (Int32 × hs) := (if x1 < 0 then some ((-1 : Int32), S) else (if x1 ≤ (6 : Int32) then some ((gI S 34 8), (uI S 34 8 x1)) else some ((-1 : Int32), S)))
theorem c_X_day (w : Wd) (d : Nat) (c : cx)   (S : hs) (x1 : Int32)  {z : Int32 × hs} (H : f_X_day S x1 = some z) : Cl w (d + 1) m_X_day [.ref 33, .int x1] (mk c S) (some (.int z.1)) (mk c z.2) := by
  refine Cl.of (Nat.le_refl _) (Nat.le_refl _) (by decide +kernel) (Nat.le_of_ble_eq_true rfl) ?_
  unfold f_X_day at H
  generalize hN (mk c S) = n0
  generalize hZ (mk c S) = z0
  show J w (d + 1) m_X_day (n0, z0, some (.int z.1), mk c z.2) 0 [some (.ref 33), some (.int x1), none] [] (mk c S)
  refine J.run b_X_day_0_1 k_X_day_0_1 rfl (show J w (d + 1) m_X_day (n0, z0, some (.int z.1), mk c z.2) 1 [some (.ref 33), some (.int x1), none] [.int x1] (mk c S) from ?_)
  refine J.zlt (tgt := 10) d_X_day_1 rfl (fun q1 => ?_) (fun q1 => ?_)
  · have H := ite_t H q1
    refine J.run b_X_day_10_1 k_X_day_10_1 rfl (show J w (d + 1) m_X_day (n0, z0, some (.int z.1), mk c z.2) 11 [some (.ref 33), some (.int x1), none] [.int (-1 : Int32)] (mk c S) from ?_)
    obtain rfl := some_e H
    exact J.iret d_X_day_11 rfl rfl
  · have H := ite_f H q1
    refine J.run b_X_day_4_2 k_X_day_4_2 rfl (show J w (d + 1) m_X_day (n0, z0, some (.int z.1), mk c z.2) 7 [some (.ref 33), some (.int x1), none] [.int (6 : Int32), .int x1] (mk c S) from ?_)
    refine J.cle (tgt := 12) d_X_day_7 rfl (fun q2 => ?_) (fun q2 => ?_)
    · have H := ite_t H q2
      refine J.run b_X_day_12_9 k_X_day_12_9 rfl (And.intro (okO_st (S := S) rfl) (And.intro (okO_st (S := S) rfl) (And.intro (okO_st (S := S) rfl) (And.intro (okO_st (S := S) rfl) (show J w (d + 1) m_X_day (n0, z0, some (.int z.1), mk c z.2) 29 [some (.ref 33), some (.int x1), some (.int (gI S 34 8))] [.int (gI S 34 8)] (mk c (uI S 34 8 x1)) from ?_)))))
      obtain rfl := some_e H
      exact J.iret d_X_day_29 rfl rfl
    · have H := ite_f H q2
      refine J.run b_X_day_10_1 k_X_day_10_1 rfl (show J w (d + 1) m_X_day (n0, z0, some (.int z.1), mk c z.2) 11 [some (.ref 33), some (.int x1), none] [.int (-1 : Int32)] (mk c S) from ?_)
      obtain rfl := some_e H
      exact J.iret d_X_day_11 rfl rfl
def b_X_feed_0_2 : List Ins := [(.iload_n 3, 0, 0, 0), (.iconst (1), 0, 0, 0)]
theorem k_X_feed_0_2 : bok m_X_feed 0 b_X_feed_0_2 = true := by decide +kernel
def b_X_feed_11_1 : List Ins := [(.iconst (-1), 0, 0, 0)]
theorem k_X_feed_11_1 : bok m_X_feed 11 b_X_feed_11_1 = true := by decide +kernel
def b_X_feed_5_2 : List Ins := [(.iload_n 3, 0, 0, 0), (.bipush (8), 0, 0, 0)]
theorem k_X_feed_5_2 : bok m_X_feed 5 b_X_feed_5_2 = true := by decide +kernel
def b_X_feed_13_6 : List Ins := [(.aload_n 0, 0, 0, 0), (.getfield 22, 0, 2, 2), (.getfield 101, 3, 2, 0), (.iload_n 3, 0, 0, 0), (.iadd, 0, 0, 0), (.sipush (200), 0, 0, 0)]
theorem k_X_feed_13_6 : bok m_X_feed 13 b_X_feed_13_6 = true := by decide +kernel
def b_X_feed_33_4 : List Ins := [(.aload_n 0, 0, 0, 0), (.getfield 22, 0, 2, 2), (.lload_n 1, 0, 0, 0), (.iload_n 3, 0, 0, 0)]
theorem k_X_feed_33_4 : bok m_X_feed 33 b_X_feed_33_4 = true := by decide +kernel
def b_X_feed_28_1 : List Ins := [(.bipush (-2), 0, 0, 0)]
theorem k_X_feed_28_1 : bok m_X_feed 28 b_X_feed_28_1 = true := by decide +kernel
theorem d_X_feed_2 : decode m_X_feed.2.1 2 = .ok (.if_icmp .lt (9), 3) := by decide +kernel
theorem d_X_feed_12 : decode m_X_feed.2.1 12 = .ok (.ireturn, 1) := by decide +kernel
theorem d_X_feed_8 : decode m_X_feed.2.1 8 = .ok (.if_icmp .le (5), 3) := by decide +kernel
theorem d_X_feed_25 : decode m_X_feed.2.1 25 = .ok (.if_icmp .le (8), 3) := by decide +kernel
theorem d_X_feed_39 : decode m_X_feed.2.1 39 = .ok (.invokevirtual 104, 3) := by decide +kernel
theorem d_X_feed_42 : decode m_X_feed.2.1 42 = .ok (.ireturn, 1) := by decide +kernel
theorem d_X_feed_30 : decode m_X_feed.2.1 30 = .ok (.goto (12), 3) := by decide +kernel
def f_X_feed  (S : hs) (x1 : Int64) (x3 : Int32) : Option (Int32 × hs) := (if x3 < (1 : Int32) then some ((-1 : Int32), S) else (if x3 ≤ (8 : Int32) then (if ((gI S 128 2) + x3) ≤ (200 : Int32) then bd (f_R_takeIn  S x1 x3) fun r4 S5 => some (r4, S5) else some ((-2 : Int32), S)) else some ((-1 : Int32), S)))
theorem c_X_feed (w : Wd) (d : Nat) (c : cx)   (S : hs) (x1 : Int64) (x3 : Int32)  {z : Int32 × hs} (H : f_X_feed S x1 x3 = some z) : Cl w (d + 2) m_X_feed [.ref 33, .long x1, .int x3] (mk c S) (some (.int z.1)) (mk c z.2) := by
  refine Cl.of (Nat.le_refl _) (Nat.le_refl _) (by decide +kernel) (Nat.le_of_ble_eq_true rfl) ?_
  unfold f_X_feed at H
  generalize hN (mk c S) = n0
  generalize hZ (mk c S) = z0
  show J w (d + 2) m_X_feed (n0, z0, some (.int z.1), mk c z.2) 0 [some (.ref 33), some (.long x1), none, some (.int x3)] [] (mk c S)
  refine J.run b_X_feed_0_2 k_X_feed_0_2 rfl (show J w (d + 2) m_X_feed (n0, z0, some (.int z.1), mk c z.2) 2 [some (.ref 33), some (.long x1), none, some (.int x3)] [.int (1 : Int32), .int x3] (mk c S) from ?_)
  refine J.clt (tgt := 11) d_X_feed_2 rfl (fun q1 => ?_) (fun q1 => ?_)
  · have H := ite_t H q1
    refine J.run b_X_feed_11_1 k_X_feed_11_1 rfl (show J w (d + 2) m_X_feed (n0, z0, some (.int z.1), mk c z.2) 12 [some (.ref 33), some (.long x1), none, some (.int x3)] [.int (-1 : Int32)] (mk c S) from ?_)
    obtain rfl := some_e H
    exact J.iret d_X_feed_12 rfl rfl
  · have H := ite_f H q1
    refine J.run b_X_feed_5_2 k_X_feed_5_2 rfl (show J w (d + 2) m_X_feed (n0, z0, some (.int z.1), mk c z.2) 8 [some (.ref 33), some (.long x1), none, some (.int x3)] [.int (8 : Int32), .int x3] (mk c S) from ?_)
    refine J.cle (tgt := 13) d_X_feed_8 rfl (fun q2 => ?_) (fun q2 => ?_)
    · have H := ite_t H q2
      refine J.run b_X_feed_13_6 k_X_feed_13_6 rfl (And.intro (okO_st (S := S) rfl) (And.intro (okO_st (S := S) rfl) (show J w (d + 2) m_X_feed (n0, z0, some (.int z.1), mk c z.2) 25 [some (.ref 33), some (.long x1), none, some (.int x3)] [.int (200 : Int32), .int ((gI S 128 2) + x3)] (mk c S) from ?_)))
      refine J.cle (tgt := 33) d_X_feed_25 rfl (fun q3 => ?_) (fun q3 => ?_)
      · have H := ite_t H q3
        refine J.run b_X_feed_33_4 k_X_feed_33_4 rfl (And.intro (okO_st (S := S) rfl) (show J w (d + 2) m_X_feed (n0, z0, some (.int z.1), mk c z.2) 39 [some (.ref 33), some (.long x1), none, some (.int x3)] [.int x3, .long x1, .ref 128] (mk c S) from ?_))
        obtain ⟨r4, S5, h6, H⟩ := bd_e H
        refine J.callV (y := m_R_takeIn) (av := [.long x1, .int x3]) (rest := []) (q := 128) l_X_104 d_X_feed_39 (isC_st rfl rfl) (c_R_takeIn w (d + 0) c  S x1 x3 h6) rfl (Nat.le_of_ble_eq_true rfl) ⟨Nat.le_refl _, Nat.le_refl _⟩ (show J w (d + 2) m_X_feed (n0, z0, some (.int z.1), mk c z.2) 42 [some (.ref 33), some (.long x1), none, some (.int x3)] [.int r4] (mk c S5) from ?_)
        obtain rfl := some_e H
        exact J.iret d_X_feed_42 rfl rfl
      · have H := ite_f H q3
        refine J.run b_X_feed_28_1 k_X_feed_28_1 rfl (show J w (d + 2) m_X_feed (n0, z0, some (.int z.1), mk c z.2) 30 [some (.ref 33), some (.long x1), none, some (.int x3)] [.int (-2 : Int32)] (mk c S) from ?_)
        refine J.goto (tgt := 42) d_X_feed_30 rfl ?_
        obtain rfl := some_e H
        exact J.iret d_X_feed_42 rfl rfl
    · have H := ite_f H q2
      refine J.run b_X_feed_11_1 k_X_feed_11_1 rfl (show J w (d + 2) m_X_feed (n0, z0, some (.int z.1), mk c z.2) 12 [some (.ref 33), some (.long x1), none, some (.int x3)] [.int (-1 : Int32)] (mk c S) from ?_)
      obtain rfl := some_e H
      exact J.iret d_X_feed_12 rfl rfl
def b_A_copyFrom_0_15 : List Ins := [(.aload_n 0, 0, 0, 0), (.aload_n 1, 0, 0, 0), (.getfield 27, 2, 5, 0), (.putfield 27, 2, 5, 0), (.aload_n 0, 0, 0, 0), (.aload_n 1, 0, 0, 0), (.getfield 31, 2, 6, 0), (.putfield 31, 2, 6, 0), (.aload_n 1, 0, 0, 0), (.getfield 9, 2, 0, 2), (.iconst (0), 0, 0, 0), (.aload_n 0, 0, 0, 0), (.getfield 9, 2, 0, 2), (.iconst (0), 0, 0, 0), (.bipush (8), 0, 0, 0)]
theorem k_A_copyFrom_0_15 : bok m_A_copyFrom 0 b_A_copyFrom_0_15 = true := by decide +kernel
def b_A_copyFrom_31_7 : List Ins := [(.aload_n 1, 0, 0, 0), (.getfield 15, 2, 1, 2), (.iconst (0), 0, 0, 0), (.aload_n 0, 0, 0, 0), (.getfield 15, 2, 1, 2), (.iconst (0), 0, 0, 0), (.bipush (8), 0, 0, 0)]
theorem k_A_copyFrom_31_7 : bok m_A_copyFrom 31 b_A_copyFrom_31_7 = true := by decide +kernel
def b_A_copyFrom_46_7 : List Ins := [(.aload_n 1, 0, 0, 0), (.getfield 18, 2, 2, 2), (.iconst (0), 0, 0, 0), (.aload_n 0, 0, 0, 0), (.getfield 18, 2, 2, 2), (.iconst (0), 0, 0, 0), (.bipush (100), 0, 0, 0)]
theorem k_A_copyFrom_46_7 : bok m_A_copyFrom 46 b_A_copyFrom_46_7 = true := by decide +kernel
def b_A_copyFrom_61_7 : List Ins := [(.aload_n 1, 0, 0, 0), (.getfield 21, 2, 3, 2), (.iconst (0), 0, 0, 0), (.aload_n 0, 0, 0, 0), (.getfield 21, 2, 3, 2), (.iconst (0), 0, 0, 0), (.bipush (100), 0, 0, 0)]
theorem k_A_copyFrom_61_7 : bok m_A_copyFrom 61 b_A_copyFrom_61_7 = true := by decide +kernel
def b_A_copyFrom_76_7 : List Ins := [(.aload_n 1, 0, 0, 0), (.getfield 24, 2, 4, 2), (.iconst (0), 0, 0, 0), (.aload_n 0, 0, 0, 0), (.getfield 24, 2, 4, 2), (.iconst (0), 0, 0, 0), (.bipush (100), 0, 0, 0)]
theorem k_A_copyFrom_76_7 : bok m_A_copyFrom 76 b_A_copyFrom_76_7 = true := by decide +kernel
theorem d_A_copyFrom_28 : decode m_A_copyFrom.2.1 28 = .ok (.invokestatic 51, 3) := by decide +kernel
theorem d_A_copyFrom_43 : decode m_A_copyFrom.2.1 43 = .ok (.invokestatic 51, 3) := by decide +kernel
theorem d_A_copyFrom_58 : decode m_A_copyFrom.2.1 58 = .ok (.invokestatic 51, 3) := by decide +kernel
theorem d_A_copyFrom_73 : decode m_A_copyFrom.2.1 73 = .ok (.invokestatic 51, 3) := by decide +kernel
theorem d_A_copyFrom_88 : decode m_A_copyFrom.2.1 88 = .ok (.invokestatic 51, 3) := by decide +kernel
theorem d_A_copyFrom_91 : decode m_A_copyFrom.2.1 91 = .ok (.return_, 1) := by decide +kernel
def f_A_copyFrom_129  (S : hs)  : Option (Int32 × hs) := some ((0 : Int32), (cpI (cpI (cpI (cpI (cpI (uI (uI S 74 5 (gI S 129 5)) 74 6 (gI (uI S 74 5 (gI S 129 5)) 129 6)) 130 75 8) 131 76 8) 132 77 100) 133 78 100) 134 79 100))
theorem c_A_copyFrom_129 (w : Wd) (d : Nat) (c : cx)   (S : hs)   {z : Int32 × hs} (H : f_A_copyFrom_129 S = some z) : Cl w (d + 2) m_A_copyFrom [.ref 74, .ref 129] (mk c S) (none) (mk c z.2) := by
  refine Cl.of (Nat.le_refl _) (Nat.le_refl _) (by decide +kernel) (Nat.le_of_ble_eq_true rfl) ?_
  unfold f_A_copyFrom_129 at H
  generalize hN (mk c S) = n0
  generalize hZ (mk c S) = z0
  show J w (d + 2) m_A_copyFrom (n0, z0, none, mk c z.2) 0 [some (.ref 74), some (.ref 129)] [] (mk c S)
  refine J.run b_A_copyFrom_0_15 k_A_copyFrom_0_15 rfl (And.intro (okO_st (S := S) rfl) (And.intro (okO_st (S := S) rfl) (And.intro (okO_st (S := (uI S 74 5 (gI S 129 5))) rfl) (And.intro (okO_st (S := (uI S 74 5 (gI S 129 5))) rfl) (And.intro (okO_st (S := (uI (uI S 74 5 (gI S 129 5)) 74 6 (gI (uI S 74 5 (gI S 129 5)) 129 6))) rfl) (And.intro (okO_st (S := (uI (uI S 74 5 (gI S 129 5)) 74 6 (gI (uI S 74 5 (gI S 129 5)) 129 6))) rfl) (show J w (d + 2) m_A_copyFrom (n0, z0, none, mk c z.2) 28 [some (.ref 74), some (.ref 129)] [.int (8 : Int32), .int (0 : Int32), .ref 75, .int (0 : Int32), .ref 130] (mk c (uI (uI S 74 5 (gI S 129 5)) 74 6 (gI (uI S 74 5 (gI S 129 5)) 129 6))) from ?_)))))))
  refine J.copy (n := (8 : Int32)) (N := 8) (a := 130) (b := 75) (rest := []) lc_A_51 d_A_copyFrom_28 (own_st (S := (uI (uI S 74 5 (gI S 129 5)) 74 6 (gI (uI S 74 5 (gI S 129 5)) 129 6))) (n := 8) rfl) (own_st (S := (uI (uI S 74 5 (gI S 129 5)) 74 6 (gI (uI S 74 5 (gI S 129 5)) 129 6))) (n := 8) rfl) (by decide) rfl (Nat.le_of_ble_eq_true rfl) (Nat.le_of_ble_eq_true rfl) (Nat.le_of_ble_eq_true rfl) (show J w (d + 2) m_A_copyFrom (n0, z0, none, mk c z.2) 31 [some (.ref 74), some (.ref 129)] [] (mk c (cpI (uI (uI S 74 5 (gI S 129 5)) 74 6 (gI (uI S 74 5 (gI S 129 5)) 129 6)) 130 75 8)) from ?_)
  refine J.run b_A_copyFrom_31_7 k_A_copyFrom_31_7 rfl (And.intro (okO_st (S := (cpI (uI (uI S 74 5 (gI S 129 5)) 74 6 (gI (uI S 74 5 (gI S 129 5)) 129 6)) 130 75 8)) rfl) (And.intro (okO_st (S := (cpI (uI (uI S 74 5 (gI S 129 5)) 74 6 (gI (uI S 74 5 (gI S 129 5)) 129 6)) 130 75 8)) rfl) (show J w (d + 2) m_A_copyFrom (n0, z0, none, mk c z.2) 43 [some (.ref 74), some (.ref 129)] [.int (8 : Int32), .int (0 : Int32), .ref 76, .int (0 : Int32), .ref 131] (mk c (cpI (uI (uI S 74 5 (gI S 129 5)) 74 6 (gI (uI S 74 5 (gI S 129 5)) 129 6)) 130 75 8)) from ?_)))
  refine J.copy (n := (8 : Int32)) (N := 8) (a := 131) (b := 76) (rest := []) lc_A_51 d_A_copyFrom_43 (own_st (S := (cpI (uI (uI S 74 5 (gI S 129 5)) 74 6 (gI (uI S 74 5 (gI S 129 5)) 129 6)) 130 75 8)) (n := 8) rfl) (own_st (S := (cpI (uI (uI S 74 5 (gI S 129 5)) 74 6 (gI (uI S 74 5 (gI S 129 5)) 129 6)) 130 75 8)) (n := 8) rfl) (by decide) rfl (Nat.le_of_ble_eq_true rfl) (Nat.le_of_ble_eq_true rfl) (Nat.le_of_ble_eq_true rfl) (show J w (d + 2) m_A_copyFrom (n0, z0, none, mk c z.2) 46 [some (.ref 74), some (.ref 129)] [] (mk c (cpI (cpI (uI (uI S 74 5 (gI S 129 5)) 74 6 (gI (uI S 74 5 (gI S 129 5)) 129 6)) 130 75 8) 131 76 8)) from ?_)
  refine J.run b_A_copyFrom_46_7 k_A_copyFrom_46_7 rfl (And.intro (okO_st (S := (cpI (cpI (uI (uI S 74 5 (gI S 129 5)) 74 6 (gI (uI S 74 5 (gI S 129 5)) 129 6)) 130 75 8) 131 76 8)) rfl) (And.intro (okO_st (S := (cpI (cpI (uI (uI S 74 5 (gI S 129 5)) 74 6 (gI (uI S 74 5 (gI S 129 5)) 129 6)) 130 75 8) 131 76 8)) rfl) (show J w (d + 2) m_A_copyFrom (n0, z0, none, mk c z.2) 58 [some (.ref 74), some (.ref 129)] [.int (100 : Int32), .int (0 : Int32), .ref 77, .int (0 : Int32), .ref 132] (mk c (cpI (cpI (uI (uI S 74 5 (gI S 129 5)) 74 6 (gI (uI S 74 5 (gI S 129 5)) 129 6)) 130 75 8) 131 76 8)) from ?_)))
  refine J.copy (n := (100 : Int32)) (N := 100) (a := 132) (b := 77) (rest := []) lc_A_51 d_A_copyFrom_58 (own_st (S := (cpI (cpI (uI (uI S 74 5 (gI S 129 5)) 74 6 (gI (uI S 74 5 (gI S 129 5)) 129 6)) 130 75 8) 131 76 8)) (n := 100) rfl) (own_st (S := (cpI (cpI (uI (uI S 74 5 (gI S 129 5)) 74 6 (gI (uI S 74 5 (gI S 129 5)) 129 6)) 130 75 8) 131 76 8)) (n := 100) rfl) (by decide) rfl (Nat.le_of_ble_eq_true rfl) (Nat.le_of_ble_eq_true rfl) (Nat.le_of_ble_eq_true rfl) (show J w (d + 2) m_A_copyFrom (n0, z0, none, mk c z.2) 61 [some (.ref 74), some (.ref 129)] [] (mk c (cpI (cpI (cpI (uI (uI S 74 5 (gI S 129 5)) 74 6 (gI (uI S 74 5 (gI S 129 5)) 129 6)) 130 75 8) 131 76 8) 132 77 100)) from ?_)
  refine J.run b_A_copyFrom_61_7 k_A_copyFrom_61_7 rfl (And.intro (okO_st (S := (cpI (cpI (cpI (uI (uI S 74 5 (gI S 129 5)) 74 6 (gI (uI S 74 5 (gI S 129 5)) 129 6)) 130 75 8) 131 76 8) 132 77 100)) rfl) (And.intro (okO_st (S := (cpI (cpI (cpI (uI (uI S 74 5 (gI S 129 5)) 74 6 (gI (uI S 74 5 (gI S 129 5)) 129 6)) 130 75 8) 131 76 8) 132 77 100)) rfl) (show J w (d + 2) m_A_copyFrom (n0, z0, none, mk c z.2) 73 [some (.ref 74), some (.ref 129)] [.int (100 : Int32), .int (0 : Int32), .ref 78, .int (0 : Int32), .ref 133] (mk c (cpI (cpI (cpI (uI (uI S 74 5 (gI S 129 5)) 74 6 (gI (uI S 74 5 (gI S 129 5)) 129 6)) 130 75 8) 131 76 8) 132 77 100)) from ?_)))
  refine J.copy (n := (100 : Int32)) (N := 100) (a := 133) (b := 78) (rest := []) lc_A_51 d_A_copyFrom_73 (own_st (S := (cpI (cpI (cpI (uI (uI S 74 5 (gI S 129 5)) 74 6 (gI (uI S 74 5 (gI S 129 5)) 129 6)) 130 75 8) 131 76 8) 132 77 100)) (n := 100) rfl) (own_st (S := (cpI (cpI (cpI (uI (uI S 74 5 (gI S 129 5)) 74 6 (gI (uI S 74 5 (gI S 129 5)) 129 6)) 130 75 8) 131 76 8) 132 77 100)) (n := 100) rfl) (by decide) rfl (Nat.le_of_ble_eq_true rfl) (Nat.le_of_ble_eq_true rfl) (Nat.le_of_ble_eq_true rfl) (show J w (d + 2) m_A_copyFrom (n0, z0, none, mk c z.2) 76 [some (.ref 74), some (.ref 129)] [] (mk c (cpI (cpI (cpI (cpI (uI (uI S 74 5 (gI S 129 5)) 74 6 (gI (uI S 74 5 (gI S 129 5)) 129 6)) 130 75 8) 131 76 8) 132 77 100) 133 78 100)) from ?_)
  refine J.run b_A_copyFrom_76_7 k_A_copyFrom_76_7 rfl (And.intro (okO_st (S := (cpI (cpI (cpI (cpI (uI (uI S 74 5 (gI S 129 5)) 74 6 (gI (uI S 74 5 (gI S 129 5)) 129 6)) 130 75 8) 131 76 8) 132 77 100) 133 78 100)) rfl) (And.intro (okO_st (S := (cpI (cpI (cpI (cpI (uI (uI S 74 5 (gI S 129 5)) 74 6 (gI (uI S 74 5 (gI S 129 5)) 129 6)) 130 75 8) 131 76 8) 132 77 100) 133 78 100)) rfl) (show J w (d + 2) m_A_copyFrom (n0, z0, none, mk c z.2) 88 [some (.ref 74), some (.ref 129)] [.int (100 : Int32), .int (0 : Int32), .ref 79, .int (0 : Int32), .ref 134] (mk c (cpI (cpI (cpI (cpI (uI (uI S 74 5 (gI S 129 5)) 74 6 (gI (uI S 74 5 (gI S 129 5)) 129 6)) 130 75 8) 131 76 8) 132 77 100) 133 78 100)) from ?_)))
  refine J.copy (n := (100 : Int32)) (N := 100) (a := 134) (b := 79) (rest := []) lc_A_51 d_A_copyFrom_88 (own_st (S := (cpI (cpI (cpI (cpI (uI (uI S 74 5 (gI S 129 5)) 74 6 (gI (uI S 74 5 (gI S 129 5)) 129 6)) 130 75 8) 131 76 8) 132 77 100) 133 78 100)) (n := 100) rfl) (own_st (S := (cpI (cpI (cpI (cpI (uI (uI S 74 5 (gI S 129 5)) 74 6 (gI (uI S 74 5 (gI S 129 5)) 129 6)) 130 75 8) 131 76 8) 132 77 100) 133 78 100)) (n := 100) rfl) (by decide) rfl (Nat.le_of_ble_eq_true rfl) (Nat.le_of_ble_eq_true rfl) (Nat.le_of_ble_eq_true rfl) (show J w (d + 2) m_A_copyFrom (n0, z0, none, mk c z.2) 91 [some (.ref 74), some (.ref 129)] [] (mk c (cpI (cpI (cpI (cpI (cpI (uI (uI S 74 5 (gI S 129 5)) 74 6 (gI (uI S 74 5 (gI S 129 5)) 129 6)) 130 75 8) 131 76 8) 132 77 100) 133 78 100) 134 79 100)) from ?_)
  obtain rfl := some_e H
  exact J.vret d_A_copyFrom_91 rfl rfl
def b_X_law_0_2 : List Ins := [(.aload_n 0, 0, 0, 0), (.getfield 22, 0, 2, 2)]
theorem k_X_law_0_2 : bok m_X_law 0 b_X_law_0_2 = true := by decide +kernel
def b_X_law_7_2 : List Ins := [(.istore_n 1, 0, 0, 0), (.iload_n 1, 0, 0, 0)]
theorem k_X_law_7_2 : bok m_X_law 7 b_X_law_7_2 = true := by decide +kernel
def b_X_law_29_1 : List Ins := [(.iload_n 1, 0, 0, 0)]
theorem k_X_law_29_1 : bok m_X_law 29 b_X_law_29_1 = true := by decide +kernel
def b_X_law_12_6 : List Ins := [(.aload_n 0, 0, 0, 0), (.getfield 10, 0, 0, 2), (.getfield 112, 1, 3, 2), (.aload_n 0, 0, 0, 0), (.getfield 22, 0, 2, 2), (.getfield 116, 3, 0, 2)]
theorem k_X_law_12_6 : bok m_X_law 12 b_X_law_12_6 = true := by decide +kernel
theorem d_X_law_4 : decode m_X_law.2.1 4 = .ok (.invokevirtual 108, 3) := by decide +kernel
theorem d_X_law_9 : decode m_X_law.2.1 9 = .ok (.ifCond .lt (20), 3) := by decide +kernel
theorem d_X_law_30 : decode m_X_law.2.1 30 = .ok (.ireturn, 1) := by decide +kernel
theorem d_X_law_26 : decode m_X_law.2.1 26 = .ok (.invokevirtual 119, 3) := by decide +kernel
def f_X_law  (S : hs)  : Option (Int32 × hs) := bd (f_R_readText  S) fun r1 S2 => (if r1 < 0 then some (r1, S2) else bd (f_A_copyFrom_129  S2) fun r5 S6 => some (r1, S6))
theorem c_X_law (w : Wd) (d : Nat) (c : cx)   (S : hs)   {z : Int32 × hs} (H : f_X_law S = some z) : Cl w (d + 68) m_X_law [.ref 33] (mk c S) (some (.int z.1)) (mk c z.2) := by
  refine Cl.of (Nat.le_refl _) (Nat.le_refl _) (by decide +kernel) (Nat.le_of_ble_eq_true rfl) ?_
  unfold f_X_law at H
  generalize hN (mk c S) = n0
  generalize hZ (mk c S) = z0
  show J w (d + 68) m_X_law (n0, z0, some (.int z.1), mk c z.2) 0 [some (.ref 33), none] [] (mk c S)
  refine J.run b_X_law_0_2 k_X_law_0_2 rfl (And.intro (okO_st (S := S) rfl) (show J w (d + 68) m_X_law (n0, z0, some (.int z.1), mk c z.2) 4 [some (.ref 33), none] [.ref 128] (mk c S) from ?_))
  obtain ⟨r1, S2, h3, H⟩ := bd_e H
  refine J.callV (y := m_R_readText) (av := []) (rest := []) (q := 128) l_X_108 d_X_law_4 (isC_st rfl rfl) (c_R_readText w (d + 0) c  S h3) rfl (Nat.le_of_ble_eq_true rfl) ⟨Nat.le_refl _, Nat.le_refl _⟩ (show J w (d + 68) m_X_law (n0, z0, some (.int z.1), mk c z.2) 7 [some (.ref 33), none] [.int r1] (mk c S2) from ?_)
  refine J.run b_X_law_7_2 k_X_law_7_2 rfl (show J w (d + 68) m_X_law (n0, z0, some (.int z.1), mk c z.2) 9 [some (.ref 33), some (.int r1)] [.int r1] (mk c S2) from ?_)
  refine J.zlt (tgt := 29) d_X_law_9 rfl (fun q4 => ?_) (fun q4 => ?_)
  · have H := ite_t H q4
    refine J.run b_X_law_29_1 k_X_law_29_1 rfl (show J w (d + 68) m_X_law (n0, z0, some (.int z.1), mk c z.2) 30 [some (.ref 33), some (.int r1)] [.int r1] (mk c S2) from ?_)
    obtain rfl := some_e H
    exact J.iret d_X_law_30 rfl rfl
  · have H := ite_f H q4
    refine J.run b_X_law_12_6 k_X_law_12_6 rfl (And.intro (okO_st (S := S2) rfl) (And.intro (okO_st (S := S2) rfl) (And.intro (okO_st (S := S2) rfl) (And.intro (okO_st (S := S2) rfl) (show J w (d + 68) m_X_law (n0, z0, some (.int z.1), mk c z.2) 26 [some (.ref 33), some (.int r1)] [.ref 129, .ref 74] (mk c S2) from ?_)))))
    obtain ⟨r5, S6, h7, H⟩ := bd_e H
    refine J.callV (y := m_A_copyFrom) (av := [.ref 129]) (rest := []) (q := 74) l_X_119 d_X_law_26 (isC_st rfl rfl) (c_A_copyFrom_129 w (d + 65) c  S2 h7) rfl (Nat.le_of_ble_eq_true rfl) ⟨Nat.le_refl _, Nat.le_refl _⟩ (show J w (d + 68) m_X_law (n0, z0, some (.int z.1), mk c z.2) 29 [some (.ref 33), some (.int r1)] [] (mk c S6) from ?_)
    refine J.run b_X_law_29_1 k_X_law_29_1 rfl (show J w (d + 68) m_X_law (n0, z0, some (.int z.1), mk c z.2) 30 [some (.ref 33), some (.int r1)] [.int r1] (mk c S6) from ?_)
    obtain rfl := some_e H
    exact J.iret d_X_law_30 rfl rfl
def b_X_isCourseNumber_0_1 : List Ins := [(.iload_n 0, 0, 0, 0)]
theorem k_X_isCourseNumber_0_1 : bok m_X_isCourseNumber 0 b_X_isCourseNumber_0_1 = true := by decide +kernel
def b_X_isCourseNumber_14_1 : List Ins := [(.iconst (0), 0, 0, 0)]
theorem k_X_isCourseNumber_14_1 : bok m_X_isCourseNumber 14 b_X_isCourseNumber_14_1 = true := by decide +kernel
def b_X_isCourseNumber_4_2 : List Ins := [(.iload_n 0, 0, 0, 0), (.bipush (40), 0, 0, 0)]
theorem k_X_isCourseNumber_4_2 : bok m_X_isCourseNumber 4 b_X_isCourseNumber_4_2 = true := by decide +kernel
def b_X_isCourseNumber_10_1 : List Ins := [(.iconst (1), 0, 0, 0)]
theorem k_X_isCourseNumber_10_1 : bok m_X_isCourseNumber 10 b_X_isCourseNumber_10_1 = true := by decide +kernel
theorem d_X_isCourseNumber_1 : decode m_X_isCourseNumber.2.1 1 = .ok (.ifCond .lt (13), 3) := by decide +kernel
theorem d_X_isCourseNumber_15 : decode m_X_isCourseNumber.2.1 15 = .ok (.ireturn, 1) := by decide +kernel
theorem d_X_isCourseNumber_7 : decode m_X_isCourseNumber.2.1 7 = .ok (.if_icmp .ge (7), 3) := by decide +kernel
theorem d_X_isCourseNumber_11 : decode m_X_isCourseNumber.2.1 11 = .ok (.goto (4), 3) := by decide +kernel
def f_X_isCourseNumber  (S : hs) (x0 : Int32) : Option (Int32 × hs) := (if x0 < 0 then some ((0 : Int32), S) else (if (40 : Int32) ≤ x0 then some ((0 : Int32), S) else some ((1 : Int32), S)))
theorem c_X_isCourseNumber (w : Wd) (d : Nat) (c : cx)   (S : hs) (x0 : Int32)  {z : Int32 × hs} (H : f_X_isCourseNumber S x0 = some z) : Cl w (d + 1) m_X_isCourseNumber [.int x0] (mk c S) (some (.int z.1)) (mk c z.2) := by
  refine Cl.of (Nat.le_refl _) (Nat.le_refl _) (by decide +kernel) (Nat.le_of_ble_eq_true rfl) ?_
  unfold f_X_isCourseNumber at H
  generalize hN (mk c S) = n0
  generalize hZ (mk c S) = z0
  show J w (d + 1) m_X_isCourseNumber (n0, z0, some (.int z.1), mk c z.2) 0 [some (.int x0)] [] (mk c S)
  refine J.run b_X_isCourseNumber_0_1 k_X_isCourseNumber_0_1 rfl (show J w (d + 1) m_X_isCourseNumber (n0, z0, some (.int z.1), mk c z.2) 1 [some (.int x0)] [.int x0] (mk c S) from ?_)
  refine J.zlt (tgt := 14) d_X_isCourseNumber_1 rfl (fun q1 => ?_) (fun q1 => ?_)
  · have H := ite_t H q1
    refine J.run b_X_isCourseNumber_14_1 k_X_isCourseNumber_14_1 rfl (show J w (d + 1) m_X_isCourseNumber (n0, z0, some (.int z.1), mk c z.2) 15 [some (.int x0)] [.int (0 : Int32)] (mk c S) from ?_)
    obtain rfl := some_e H
    exact J.nret d_X_isCourseNumber_15 rfl rfl rfl
  · have H := ite_f H q1
    refine J.run b_X_isCourseNumber_4_2 k_X_isCourseNumber_4_2 rfl (show J w (d + 1) m_X_isCourseNumber (n0, z0, some (.int z.1), mk c z.2) 7 [some (.int x0)] [.int (40 : Int32), .int x0] (mk c S) from ?_)
    refine J.cge (tgt := 14) d_X_isCourseNumber_7 rfl (fun q2 => ?_) (fun q2 => ?_)
    · have H := ite_t H q2
      refine J.run b_X_isCourseNumber_14_1 k_X_isCourseNumber_14_1 rfl (show J w (d + 1) m_X_isCourseNumber (n0, z0, some (.int z.1), mk c z.2) 15 [some (.int x0)] [.int (0 : Int32)] (mk c S) from ?_)
      obtain rfl := some_e H
      exact J.nret d_X_isCourseNumber_15 rfl rfl rfl
    · have H := ite_f H q2
      refine J.run b_X_isCourseNumber_10_1 k_X_isCourseNumber_10_1 rfl (show J w (d + 1) m_X_isCourseNumber (n0, z0, some (.int z.1), mk c z.2) 11 [some (.int x0)] [.int (1 : Int32)] (mk c S) from ?_)
      refine J.goto (tgt := 15) d_X_isCourseNumber_11 rfl ?_
      obtain rfl := some_e H
      exact J.nret d_X_isCourseNumber_15 rfl rfl rfl
def b_X_turn_0_1 : List Ins := [(.iload_n 1, 0, 0, 0)]
theorem k_X_turn_0_1 : bok m_X_turn 0 b_X_turn_0_1 = true := by decide +kernel
def b_X_turn_14_1 : List Ins := [(.iconst (-1), 0, 0, 0)]
theorem k_X_turn_14_1 : bok m_X_turn 14 b_X_turn_14_1 = true := by decide +kernel
def b_X_turn_7_1 : List Ins := [(.iload_n 2, 0, 0, 0)]
theorem k_X_turn_7_1 : bok m_X_turn 7 b_X_turn_7_1 = true := by decide +kernel
def b_X_turn_16_4 : List Ins := [(.aload_n 0, 0, 0, 0), (.getfield 10, 0, 0, 2), (.iload_n 1, 0, 0, 0), (.iload_n 2, 0, 0, 0)]
theorem k_X_turn_16_4 : bok m_X_turn 16 b_X_turn_16_4 = true := by decide +kernel
def b_X_turn_25_3 : List Ins := [(.istore_n 3, 0, 0, 0), (.iload_n 3, 0, 0, 0), (.iconst (-1), 0, 0, 0)]
theorem k_X_turn_25_3 : bok m_X_turn 25 b_X_turn_25_3 = true := by decide +kernel
def b_X_turn_36_1 : List Ins := [(.iload_n 3, 0, 0, 0)]
theorem k_X_turn_36_1 : bok m_X_turn 36 b_X_turn_36_1 = true := by decide +kernel
def b_X_turn_31_1 : List Ins := [(.bipush (-3), 0, 0, 0)]
theorem k_X_turn_31_1 : bok m_X_turn 31 b_X_turn_31_1 = true := by decide +kernel
theorem d_X_turn_1 : decode m_X_turn.2.1 1 = .ok (.invokestatic 125, 3) := by decide +kernel
theorem d_X_turn_4 : decode m_X_turn.2.1 4 = .ok (.ifCond .eq (10), 3) := by decide +kernel
theorem d_X_turn_15 : decode m_X_turn.2.1 15 = .ok (.ireturn, 1) := by decide +kernel
theorem d_X_turn_8 : decode m_X_turn.2.1 8 = .ok (.invokestatic 125, 3) := by decide +kernel
theorem d_X_turn_11 : decode m_X_turn.2.1 11 = .ok (.ifCond .ne (5), 3) := by decide +kernel
theorem d_X_turn_22 : decode m_X_turn.2.1 22 = .ok (.invokevirtual 128, 3) := by decide +kernel
theorem d_X_turn_28 : decode m_X_turn.2.1 28 = .ok (.if_icmp .ne (8), 3) := by decide +kernel
theorem d_X_turn_37 : decode m_X_turn.2.1 37 = .ok (.ireturn, 1) := by decide +kernel
theorem d_X_turn_33 : decode m_X_turn.2.1 33 = .ok (.goto (4), 3) := by decide +kernel
def f_X_turn  (S : hs) (x1 : Int32) (x2 : Int32) : Option (Int32 × hs) := bd (f_X_isCourseNumber  S x1) fun r1 S2 => (if r1 = 0 then some ((-1 : Int32), S2) else bd (f_X_isCourseNumber  S2 x2) fun r5 S6 => (if r5 = 0 then some ((-1 : Int32), S6) else bd (f_T_turnNow  S6 x1 x2) fun r9 S10 => (if r9 = (-1 : Int32) then some ((-3 : Int32), S10) else some (r9, S10))))
theorem c_X_turn (w : Wd) (d : Nat) (c : cx)   (S : hs) (x1 : Int32) (x2 : Int32)  {z : Int32 × hs} (H : f_X_turn S x1 x2 = some z) : Cl w (d + 5) m_X_turn [.ref 33, .int x1, .int x2] (mk c S) (some (.int z.1)) (mk c z.2) := by
  refine Cl.of (Nat.le_refl _) (Nat.le_refl _) (by decide +kernel) (Nat.le_of_ble_eq_true rfl) ?_
  unfold f_X_turn at H
  generalize hN (mk c S) = n0
  generalize hZ (mk c S) = z0
  show J w (d + 5) m_X_turn (n0, z0, some (.int z.1), mk c z.2) 0 [some (.ref 33), some (.int x1), some (.int x2), none] [] (mk c S)
  refine J.run b_X_turn_0_1 k_X_turn_0_1 rfl (show J w (d + 5) m_X_turn (n0, z0, some (.int z.1), mk c z.2) 1 [some (.ref 33), some (.int x1), some (.int x2), none] [.int x1] (mk c S) from ?_)
  obtain ⟨r1, S2, h3, H⟩ := bd_e H
  refine J.callS (y := m_X_isCourseNumber) (av := [.int x1]) (rest := []) l_X_125 d_X_turn_1 (c_X_isCourseNumber w (d + 3) c  S x1 h3) rfl (Nat.le_of_ble_eq_true rfl) ⟨Nat.le_refl _, Nat.le_refl _⟩ (show J w (d + 5) m_X_turn (n0, z0, some (.int z.1), mk c z.2) 4 [some (.ref 33), some (.int x1), some (.int x2), none] [.int r1] (mk c S2) from ?_)
  refine J.zeq (tgt := 14) d_X_turn_4 rfl (fun q4 => ?_) (fun q4 => ?_)
  · have H := ite_t H q4
    refine J.run b_X_turn_14_1 k_X_turn_14_1 rfl (show J w (d + 5) m_X_turn (n0, z0, some (.int z.1), mk c z.2) 15 [some (.ref 33), some (.int x1), some (.int x2), none] [.int (-1 : Int32)] (mk c S2) from ?_)
    obtain rfl := some_e H
    exact J.iret d_X_turn_15 rfl rfl
  · have H := ite_f H q4
    refine J.run b_X_turn_7_1 k_X_turn_7_1 rfl (show J w (d + 5) m_X_turn (n0, z0, some (.int z.1), mk c z.2) 8 [some (.ref 33), some (.int x1), some (.int x2), none] [.int x2] (mk c S2) from ?_)
    obtain ⟨r5, S6, h7, H⟩ := bd_e H
    refine J.callS (y := m_X_isCourseNumber) (av := [.int x2]) (rest := []) l_X_125 d_X_turn_8 (c_X_isCourseNumber w (d + 3) c  S2 x2 h7) rfl (Nat.le_of_ble_eq_true rfl) ⟨Nat.le_refl _, Nat.le_refl _⟩ (show J w (d + 5) m_X_turn (n0, z0, some (.int z.1), mk c z.2) 11 [some (.ref 33), some (.int x1), some (.int x2), none] [.int r5] (mk c S6) from ?_)
    refine J.zne (tgt := 16) d_X_turn_11 rfl (fun q8 => ?_) (fun q8 => ?_)
    · have H := ite_f H q8
      refine J.run b_X_turn_16_4 k_X_turn_16_4 rfl (And.intro (okO_st (S := S6) rfl) (show J w (d + 5) m_X_turn (n0, z0, some (.int z.1), mk c z.2) 22 [some (.ref 33), some (.int x1), some (.int x2), none] [.int x2, .int x1, .ref 34] (mk c S6) from ?_))
      obtain ⟨r9, S10, h11, H⟩ := bd_e H
      refine J.callV (y := m_T_turnNow) (av := [.int x1, .int x2]) (rest := []) (q := 34) l_X_128 d_X_turn_22 (isC_st rfl rfl) (c_T_turnNow w (d + 0) c  S6 x1 x2 h11) rfl (Nat.le_of_ble_eq_true rfl) ⟨Nat.le_refl _, Nat.le_refl _⟩ (show J w (d + 5) m_X_turn (n0, z0, some (.int z.1), mk c z.2) 25 [some (.ref 33), some (.int x1), some (.int x2), none] [.int r9] (mk c S10) from ?_)
      refine J.run b_X_turn_25_3 k_X_turn_25_3 rfl (show J w (d + 5) m_X_turn (n0, z0, some (.int z.1), mk c z.2) 28 [some (.ref 33), some (.int x1), some (.int x2), some (.int r9)] [.int (-1 : Int32), .int r9] (mk c S10) from ?_)
      refine J.cne (tgt := 36) d_X_turn_28 rfl (fun q12 => ?_) (fun q12 => ?_)
      · have H := ite_f H q12
        refine J.run b_X_turn_36_1 k_X_turn_36_1 rfl (show J w (d + 5) m_X_turn (n0, z0, some (.int z.1), mk c z.2) 37 [some (.ref 33), some (.int x1), some (.int x2), some (.int r9)] [.int r9] (mk c S10) from ?_)
        obtain rfl := some_e H
        exact J.iret d_X_turn_37 rfl rfl
      · have H := ite_t H q12
        refine J.run b_X_turn_31_1 k_X_turn_31_1 rfl (show J w (d + 5) m_X_turn (n0, z0, some (.int z.1), mk c z.2) 33 [some (.ref 33), some (.int x1), some (.int x2), some (.int r9)] [.int (-3 : Int32)] (mk c S10) from ?_)
        refine J.goto (tgt := 37) d_X_turn_33 rfl ?_
        obtain rfl := some_e H
        exact J.iret d_X_turn_37 rfl rfl
    · have H := ite_t H q8
      refine J.run b_X_turn_14_1 k_X_turn_14_1 rfl (show J w (d + 5) m_X_turn (n0, z0, some (.int z.1), mk c z.2) 15 [some (.ref 33), some (.int x1), some (.int x2), none] [.int (-1 : Int32)] (mk c S6) from ?_)
      obtain rfl := some_e H
      exact J.iret d_X_turn_15 rfl rfl
def b_X_isWidth_0_1 : List Ins := [(.iload_n 0, 0, 0, 0)]
theorem k_X_isWidth_0_1 : bok m_X_isWidth 0 b_X_isWidth_0_1 = true := by decide +kernel
def b_X_isWidth_14_1 : List Ins := [(.iconst (0), 0, 0, 0)]
theorem k_X_isWidth_14_1 : bok m_X_isWidth 14 b_X_isWidth_14_1 = true := by decide +kernel
def b_X_isWidth_4_2 : List Ins := [(.iload_n 0, 0, 0, 0), (.bipush (9), 0, 0, 0)]
theorem k_X_isWidth_4_2 : bok m_X_isWidth 4 b_X_isWidth_4_2 = true := by decide +kernel
def b_X_isWidth_10_1 : List Ins := [(.iconst (1), 0, 0, 0)]
theorem k_X_isWidth_10_1 : bok m_X_isWidth 10 b_X_isWidth_10_1 = true := by decide +kernel
theorem d_X_isWidth_1 : decode m_X_isWidth.2.1 1 = .ok (.ifCond .lt (13), 3) := by decide +kernel
theorem d_X_isWidth_15 : decode m_X_isWidth.2.1 15 = .ok (.ireturn, 1) := by decide +kernel
theorem d_X_isWidth_7 : decode m_X_isWidth.2.1 7 = .ok (.if_icmp .gt (7), 3) := by decide +kernel
theorem d_X_isWidth_11 : decode m_X_isWidth.2.1 11 = .ok (.goto (4), 3) := by decide +kernel
def f_X_isWidth  (S : hs) (x0 : Int32) : Option (Int32 × hs) := (if x0 < 0 then some ((0 : Int32), S) else (if (9 : Int32) < x0 then some ((0 : Int32), S) else some ((1 : Int32), S)))
theorem c_X_isWidth (w : Wd) (d : Nat) (c : cx)   (S : hs) (x0 : Int32)  {z : Int32 × hs} (H : f_X_isWidth S x0 = some z) : Cl w (d + 1) m_X_isWidth [.int x0] (mk c S) (some (.int z.1)) (mk c z.2) := by
  refine Cl.of (Nat.le_refl _) (Nat.le_refl _) (by decide +kernel) (Nat.le_of_ble_eq_true rfl) ?_
  unfold f_X_isWidth at H
  generalize hN (mk c S) = n0
  generalize hZ (mk c S) = z0
  show J w (d + 1) m_X_isWidth (n0, z0, some (.int z.1), mk c z.2) 0 [some (.int x0)] [] (mk c S)
  refine J.run b_X_isWidth_0_1 k_X_isWidth_0_1 rfl (show J w (d + 1) m_X_isWidth (n0, z0, some (.int z.1), mk c z.2) 1 [some (.int x0)] [.int x0] (mk c S) from ?_)
  refine J.zlt (tgt := 14) d_X_isWidth_1 rfl (fun q1 => ?_) (fun q1 => ?_)
  · have H := ite_t H q1
    refine J.run b_X_isWidth_14_1 k_X_isWidth_14_1 rfl (show J w (d + 1) m_X_isWidth (n0, z0, some (.int z.1), mk c z.2) 15 [some (.int x0)] [.int (0 : Int32)] (mk c S) from ?_)
    obtain rfl := some_e H
    exact J.nret d_X_isWidth_15 rfl rfl rfl
  · have H := ite_f H q1
    refine J.run b_X_isWidth_4_2 k_X_isWidth_4_2 rfl (show J w (d + 1) m_X_isWidth (n0, z0, some (.int z.1), mk c z.2) 7 [some (.int x0)] [.int (9 : Int32), .int x0] (mk c S) from ?_)
    refine J.cgt (tgt := 14) d_X_isWidth_7 rfl (fun q2 => ?_) (fun q2 => ?_)
    · have H := ite_t H q2
      refine J.run b_X_isWidth_14_1 k_X_isWidth_14_1 rfl (show J w (d + 1) m_X_isWidth (n0, z0, some (.int z.1), mk c z.2) 15 [some (.int x0)] [.int (0 : Int32)] (mk c S) from ?_)
      obtain rfl := some_e H
      exact J.nret d_X_isWidth_15 rfl rfl rfl
    · have H := ite_f H q2
      refine J.run b_X_isWidth_10_1 k_X_isWidth_10_1 rfl (show J w (d + 1) m_X_isWidth (n0, z0, some (.int z.1), mk c z.2) 11 [some (.int x0)] [.int (1 : Int32)] (mk c S) from ?_)
      refine J.goto (tgt := 15) d_X_isWidth_11 rfl ?_
      obtain rfl := some_e H
      exact J.nret d_X_isWidth_15 rfl rfl rfl
def b_X_may_0_1 : List Ins := [(.iload_n 1, 0, 0, 0)]
theorem k_X_may_0_1 : bok m_X_may 0 b_X_may_0_1 = true := by decide +kernel
def b_X_may_21_1 : List Ins := [(.iconst (-1), 0, 0, 0)]
theorem k_X_may_21_1 : bok m_X_may 21 b_X_may_21_1 = true := by decide +kernel
def b_X_may_7_1 : List Ins := [(.iload_n 2, 0, 0, 0)]
theorem k_X_may_7_1 : bok m_X_may 7 b_X_may_7_1 = true := by decide +kernel
def b_X_may_14_1 : List Ins := [(.iload_n 3, 0, 0, 0)]
theorem k_X_may_14_1 : bok m_X_may 14 b_X_may_14_1 = true := by decide +kernel
def b_X_may_23_4 : List Ins := [(.aload_n 0, 0, 0, 0), (.getfield 10, 0, 0, 2), (.iload_n 1, 0, 0, 0), (.iload_n 2, 0, 0, 0)]
theorem k_X_may_23_4 : bok m_X_may 23 b_X_may_23_4 = true := by decide +kernel
def b_X_may_32_1 : List Ins := [(.iconst (-1), 0, 0, 0)]
theorem k_X_may_32_1 : bok m_X_may 32 b_X_may_32_1 = true := by decide +kernel
def b_X_may_39_5 : List Ins := [(.aload_n 0, 0, 0, 0), (.getfield 10, 0, 0, 2), (.iload_n 1, 0, 0, 0), (.iload_n 2, 0, 0, 0), (.iload_n 3, 0, 0, 0)]
theorem k_X_may_39_5 : bok m_X_may 39 b_X_may_39_5 = true := by decide +kernel
def b_X_may_56_1 : List Ins := [(.iconst (0), 0, 0, 0)]
theorem k_X_may_56_1 : bok m_X_may 56 b_X_may_56_1 = true := by decide +kernel
def b_X_may_52_1 : List Ins := [(.iconst (1), 0, 0, 0)]
theorem k_X_may_52_1 : bok m_X_may 52 b_X_may_52_1 = true := by decide +kernel
def b_X_may_36_1 : List Ins := [(.bipush (-3), 0, 0, 0)]
theorem k_X_may_36_1 : bok m_X_may 36 b_X_may_36_1 = true := by decide +kernel
theorem d_X_may_1 : decode m_X_may.2.1 1 = .ok (.invokestatic 125, 3) := by decide +kernel
theorem d_X_may_4 : decode m_X_may.2.1 4 = .ok (.ifCond .eq (17), 3) := by decide +kernel
theorem d_X_may_22 : decode m_X_may.2.1 22 = .ok (.ireturn, 1) := by decide +kernel
theorem d_X_may_8 : decode m_X_may.2.1 8 = .ok (.invokestatic 125, 3) := by decide +kernel
theorem d_X_may_11 : decode m_X_may.2.1 11 = .ok (.ifCond .eq (10), 3) := by decide +kernel
theorem d_X_may_15 : decode m_X_may.2.1 15 = .ok (.invokestatic 131, 3) := by decide +kernel
theorem d_X_may_18 : decode m_X_may.2.1 18 = .ok (.ifCond .ne (5), 3) := by decide +kernel
theorem d_X_may_29 : decode m_X_may.2.1 29 = .ok (.invokevirtual 128, 3) := by decide +kernel
theorem d_X_may_33 : decode m_X_may.2.1 33 = .ok (.if_icmp .ne (6), 3) := by decide +kernel
theorem d_X_may_46 : decode m_X_may.2.1 46 = .ok (.invokevirtual 134, 3) := by decide +kernel
theorem d_X_may_49 : decode m_X_may.2.1 49 = .ok (.ifCond .eq (7), 3) := by decide +kernel
theorem d_X_may_57 : decode m_X_may.2.1 57 = .ok (.ireturn, 1) := by decide +kernel
theorem d_X_may_53 : decode m_X_may.2.1 53 = .ok (.goto (4), 3) := by decide +kernel
theorem d_X_may_38 : decode m_X_may.2.1 38 = .ok (.ireturn, 1) := by decide +kernel
def f_X_may  (S : hs) (x1 : Int32) (x2 : Int32) (x3 : Int32) : Option (Int32 × hs) := bd (f_X_isCourseNumber  S x1) fun r1 S2 => (if r1 = 0 then some ((-1 : Int32), S2) else bd (f_X_isCourseNumber  S2 x2) fun r5 S6 => (if r5 = 0 then some ((-1 : Int32), S6) else bd (f_X_isWidth  S6 x3) fun r9 S10 => (if r9 = 0 then some ((-1 : Int32), S10) else bd (f_T_turnNow  S10 x1 x2) fun r13 S14 => (if r13 = (-1 : Int32) then some ((-3 : Int32), S14) else bd (f_T_mayGo  S14 x1 x2 x3) fun r17 S18 => (if r17 = 0 then some ((0 : Int32), S18) else some ((1 : Int32), S18))))))
theorem c_X_may (w : Wd) (d : Nat) (c : cx)   (S : hs) (x1 : Int32) (x2 : Int32) (x3 : Int32)  {z : Int32 × hs} (H : f_X_may S x1 x2 x3 = some z) : Cl w (d + 6) m_X_may [.ref 33, .int x1, .int x2, .int x3] (mk c S) (some (.int z.1)) (mk c z.2) := by
  refine Cl.of (Nat.le_refl _) (Nat.le_refl _) (by decide +kernel) (Nat.le_of_ble_eq_true rfl) ?_
  unfold f_X_may at H
  generalize hN (mk c S) = n0
  generalize hZ (mk c S) = z0
  show J w (d + 6) m_X_may (n0, z0, some (.int z.1), mk c z.2) 0 [some (.ref 33), some (.int x1), some (.int x2), some (.int x3)] [] (mk c S)
  refine J.run b_X_may_0_1 k_X_may_0_1 rfl (show J w (d + 6) m_X_may (n0, z0, some (.int z.1), mk c z.2) 1 [some (.ref 33), some (.int x1), some (.int x2), some (.int x3)] [.int x1] (mk c S) from ?_)
  obtain ⟨r1, S2, h3, H⟩ := bd_e H
  refine J.callS (y := m_X_isCourseNumber) (av := [.int x1]) (rest := []) l_X_125 d_X_may_1 (c_X_isCourseNumber w (d + 4) c  S x1 h3) rfl (Nat.le_of_ble_eq_true rfl) ⟨Nat.le_refl _, Nat.le_refl _⟩ (show J w (d + 6) m_X_may (n0, z0, some (.int z.1), mk c z.2) 4 [some (.ref 33), some (.int x1), some (.int x2), some (.int x3)] [.int r1] (mk c S2) from ?_)
  refine J.zeq (tgt := 21) d_X_may_4 rfl (fun q4 => ?_) (fun q4 => ?_)
  · have H := ite_t H q4
    refine J.run b_X_may_21_1 k_X_may_21_1 rfl (show J w (d + 6) m_X_may (n0, z0, some (.int z.1), mk c z.2) 22 [some (.ref 33), some (.int x1), some (.int x2), some (.int x3)] [.int (-1 : Int32)] (mk c S2) from ?_)
    obtain rfl := some_e H
    exact J.iret d_X_may_22 rfl rfl
  · have H := ite_f H q4
    refine J.run b_X_may_7_1 k_X_may_7_1 rfl (show J w (d + 6) m_X_may (n0, z0, some (.int z.1), mk c z.2) 8 [some (.ref 33), some (.int x1), some (.int x2), some (.int x3)] [.int x2] (mk c S2) from ?_)
    obtain ⟨r5, S6, h7, H⟩ := bd_e H
    refine J.callS (y := m_X_isCourseNumber) (av := [.int x2]) (rest := []) l_X_125 d_X_may_8 (c_X_isCourseNumber w (d + 4) c  S2 x2 h7) rfl (Nat.le_of_ble_eq_true rfl) ⟨Nat.le_refl _, Nat.le_refl _⟩ (show J w (d + 6) m_X_may (n0, z0, some (.int z.1), mk c z.2) 11 [some (.ref 33), some (.int x1), some (.int x2), some (.int x3)] [.int r5] (mk c S6) from ?_)
    refine J.zeq (tgt := 21) d_X_may_11 rfl (fun q8 => ?_) (fun q8 => ?_)
    · have H := ite_t H q8
      refine J.run b_X_may_21_1 k_X_may_21_1 rfl (show J w (d + 6) m_X_may (n0, z0, some (.int z.1), mk c z.2) 22 [some (.ref 33), some (.int x1), some (.int x2), some (.int x3)] [.int (-1 : Int32)] (mk c S6) from ?_)
      obtain rfl := some_e H
      exact J.iret d_X_may_22 rfl rfl
    · have H := ite_f H q8
      refine J.run b_X_may_14_1 k_X_may_14_1 rfl (show J w (d + 6) m_X_may (n0, z0, some (.int z.1), mk c z.2) 15 [some (.ref 33), some (.int x1), some (.int x2), some (.int x3)] [.int x3] (mk c S6) from ?_)
      obtain ⟨r9, S10, h11, H⟩ := bd_e H
      refine J.callS (y := m_X_isWidth) (av := [.int x3]) (rest := []) l_X_131 d_X_may_15 (c_X_isWidth w (d + 4) c  S6 x3 h11) rfl (Nat.le_of_ble_eq_true rfl) ⟨Nat.le_refl _, Nat.le_refl _⟩ (show J w (d + 6) m_X_may (n0, z0, some (.int z.1), mk c z.2) 18 [some (.ref 33), some (.int x1), some (.int x2), some (.int x3)] [.int r9] (mk c S10) from ?_)
      refine J.zne (tgt := 23) d_X_may_18 rfl (fun q12 => ?_) (fun q12 => ?_)
      · have H := ite_f H q12
        refine J.run b_X_may_23_4 k_X_may_23_4 rfl (And.intro (okO_st (S := S10) rfl) (show J w (d + 6) m_X_may (n0, z0, some (.int z.1), mk c z.2) 29 [some (.ref 33), some (.int x1), some (.int x2), some (.int x3)] [.int x2, .int x1, .ref 34] (mk c S10) from ?_))
        obtain ⟨r13, S14, h15, H⟩ := bd_e H
        refine J.callV (y := m_T_turnNow) (av := [.int x1, .int x2]) (rest := []) (q := 34) l_X_128 d_X_may_29 (isC_st rfl rfl) (c_T_turnNow w (d + 1) c  S10 x1 x2 h15) rfl (Nat.le_of_ble_eq_true rfl) ⟨Nat.le_refl _, Nat.le_refl _⟩ (show J w (d + 6) m_X_may (n0, z0, some (.int z.1), mk c z.2) 32 [some (.ref 33), some (.int x1), some (.int x2), some (.int x3)] [.int r13] (mk c S14) from ?_)
        refine J.run b_X_may_32_1 k_X_may_32_1 rfl (show J w (d + 6) m_X_may (n0, z0, some (.int z.1), mk c z.2) 33 [some (.ref 33), some (.int x1), some (.int x2), some (.int x3)] [.int (-1 : Int32), .int r13] (mk c S14) from ?_)
        refine J.cne (tgt := 39) d_X_may_33 rfl (fun q16 => ?_) (fun q16 => ?_)
        · have H := ite_f H q16
          refine J.run b_X_may_39_5 k_X_may_39_5 rfl (And.intro (okO_st (S := S14) rfl) (show J w (d + 6) m_X_may (n0, z0, some (.int z.1), mk c z.2) 46 [some (.ref 33), some (.int x1), some (.int x2), some (.int x3)] [.int x3, .int x2, .int x1, .ref 34] (mk c S14) from ?_))
          obtain ⟨r17, S18, h19, H⟩ := bd_e H
          refine J.callV (y := m_T_mayGo) (av := [.int x1, .int x2, .int x3]) (rest := []) (q := 34) l_X_134 d_X_may_46 (isC_st rfl rfl) (c_T_mayGo w (d + 0) c  S14 x1 x2 x3 h19) rfl (Nat.le_of_ble_eq_true rfl) ⟨Nat.le_refl _, Nat.le_refl _⟩ (show J w (d + 6) m_X_may (n0, z0, some (.int z.1), mk c z.2) 49 [some (.ref 33), some (.int x1), some (.int x2), some (.int x3)] [.int r17] (mk c S18) from ?_)
          refine J.zeq (tgt := 56) d_X_may_49 rfl (fun q20 => ?_) (fun q20 => ?_)
          · have H := ite_t H q20
            refine J.run b_X_may_56_1 k_X_may_56_1 rfl (show J w (d + 6) m_X_may (n0, z0, some (.int z.1), mk c z.2) 57 [some (.ref 33), some (.int x1), some (.int x2), some (.int x3)] [.int (0 : Int32)] (mk c S18) from ?_)
            obtain rfl := some_e H
            exact J.iret d_X_may_57 rfl rfl
          · have H := ite_f H q20
            refine J.run b_X_may_52_1 k_X_may_52_1 rfl (show J w (d + 6) m_X_may (n0, z0, some (.int z.1), mk c z.2) 53 [some (.ref 33), some (.int x1), some (.int x2), some (.int x3)] [.int (1 : Int32)] (mk c S18) from ?_)
            refine J.goto (tgt := 57) d_X_may_53 rfl ?_
            obtain rfl := some_e H
            exact J.iret d_X_may_57 rfl rfl
        · have H := ite_t H q16
          refine J.run b_X_may_36_1 k_X_may_36_1 rfl (show J w (d + 6) m_X_may (n0, z0, some (.int z.1), mk c z.2) 38 [some (.ref 33), some (.int x1), some (.int x2), some (.int x3)] [.int (-3 : Int32)] (mk c S14) from ?_)
          obtain rfl := some_e H
          exact J.iret d_X_may_38 rfl rfl
      · have H := ite_t H q12
        refine J.run b_X_may_21_1 k_X_may_21_1 rfl (show J w (d + 6) m_X_may (n0, z0, some (.int z.1), mk c z.2) 22 [some (.ref 33), some (.int x1), some (.int x2), some (.int x3)] [.int (-1 : Int32)] (mk c S10) from ?_)
        obtain rfl := some_e H
        exact J.iret d_X_may_22 rfl rfl
def b_X_walker_0_1 : List Ins := [(.iload_n 2, 0, 0, 0)]
theorem k_X_walker_0_1 : bok m_X_walker 0 b_X_walker_0_1 = true := by decide +kernel
def b_X_walker_19_1 : List Ins := [(.iconst (-1), 0, 0, 0)]
theorem k_X_walker_19_1 : bok m_X_walker 19 b_X_walker_19_1 = true := by decide +kernel
def b_X_walker_7_4 : List Ins := [(.aload_n 0, 0, 0, 0), (.getfield 10, 0, 0, 2), (.iload_n 1, 0, 0, 0), (.iload_n 2, 0, 0, 0)]
theorem k_X_walker_7_4 : bok m_X_walker 7 b_X_walker_7_4 = true := by decide +kernel
def b_X_walker_21_4 : List Ins := [(.aload_n 0, 0, 0, 0), (.getfield 10, 0, 0, 2), (.getfield 141, 1, 7, 0), (.iconst (4), 0, 0, 0)]
theorem k_X_walker_21_4 : bok m_X_walker 21 b_X_walker_21_4 = true := by decide +kernel
def b_X_walker_37_4 : List Ins := [(.aload_n 0, 0, 0, 0), (.getfield 10, 0, 0, 2), (.iload_n 1, 0, 0, 0), (.iload_n 2, 0, 0, 0)]
theorem k_X_walker_37_4 : bok m_X_walker 37 b_X_walker_37_4 = true := by decide +kernel
def b_X_walker_32_1 : List Ins := [(.bipush (-2), 0, 0, 0)]
theorem k_X_walker_32_1 : bok m_X_walker 32 b_X_walker_32_1 = true := by decide +kernel
theorem d_X_walker_1 : decode m_X_walker.2.1 1 = .ok (.invokestatic 131, 3) := by decide +kernel
theorem d_X_walker_4 : decode m_X_walker.2.1 4 = .ok (.ifCond .eq (15), 3) := by decide +kernel
theorem d_X_walker_20 : decode m_X_walker.2.1 20 = .ok (.ireturn, 1) := by decide +kernel
theorem d_X_walker_13 : decode m_X_walker.2.1 13 = .ok (.invokevirtual 138, 3) := by decide +kernel
theorem d_X_walker_16 : decode m_X_walker.2.1 16 = .ok (.ifCond .ne (5), 3) := by decide +kernel
theorem d_X_walker_29 : decode m_X_walker.2.1 29 = .ok (.if_icmp .lt (8), 3) := by decide +kernel
theorem d_X_walker_43 : decode m_X_walker.2.1 43 = .ok (.invokevirtual 144, 3) := by decide +kernel
theorem d_X_walker_46 : decode m_X_walker.2.1 46 = .ok (.ireturn, 1) := by decide +kernel
theorem d_X_walker_34 : decode m_X_walker.2.1 34 = .ok (.goto (12), 3) := by decide +kernel
def f_X_walker  (S : hs) (x1 : Int32) (x2 : Int32) : Option (Int32 × hs) := bd (f_X_isWidth  S x2) fun r1 S2 => (if r1 = 0 then some ((-1 : Int32), S2) else bd (f_T_hasCourseFor  S2 x1 x2) fun r5 S6 => (if r5 = 0 then some ((-1 : Int32), S6) else (if (gI S6 34 7) < (4 : Int32) then bd (f_T_addWalker  S6 x1 x2) fun r10 S11 => some (r10, S11) else some ((-2 : Int32), S6))))
theorem c_X_walker (w : Wd) (d : Nat) (c : cx)   (S : hs) (x1 : Int32) (x2 : Int32)  {z : Int32 × hs} (H : f_X_walker S x1 x2 = some z) : Cl w (d + 5) m_X_walker [.ref 33, .int x1, .int x2] (mk c S) (some (.int z.1)) (mk c z.2) := by
  refine Cl.of (Nat.le_refl _) (Nat.le_refl _) (by decide +kernel) (Nat.le_of_ble_eq_true rfl) ?_
  unfold f_X_walker at H
  generalize hN (mk c S) = n0
  generalize hZ (mk c S) = z0
  show J w (d + 5) m_X_walker (n0, z0, some (.int z.1), mk c z.2) 0 [some (.ref 33), some (.int x1), some (.int x2)] [] (mk c S)
  refine J.run b_X_walker_0_1 k_X_walker_0_1 rfl (show J w (d + 5) m_X_walker (n0, z0, some (.int z.1), mk c z.2) 1 [some (.ref 33), some (.int x1), some (.int x2)] [.int x2] (mk c S) from ?_)
  obtain ⟨r1, S2, h3, H⟩ := bd_e H
  refine J.callS (y := m_X_isWidth) (av := [.int x2]) (rest := []) l_X_131 d_X_walker_1 (c_X_isWidth w (d + 3) c  S x2 h3) rfl (Nat.le_of_ble_eq_true rfl) ⟨Nat.le_refl _, Nat.le_refl _⟩ (show J w (d + 5) m_X_walker (n0, z0, some (.int z.1), mk c z.2) 4 [some (.ref 33), some (.int x1), some (.int x2)] [.int r1] (mk c S2) from ?_)
  refine J.zeq (tgt := 19) d_X_walker_4 rfl (fun q4 => ?_) (fun q4 => ?_)
  · have H := ite_t H q4
    refine J.run b_X_walker_19_1 k_X_walker_19_1 rfl (show J w (d + 5) m_X_walker (n0, z0, some (.int z.1), mk c z.2) 20 [some (.ref 33), some (.int x1), some (.int x2)] [.int (-1 : Int32)] (mk c S2) from ?_)
    obtain rfl := some_e H
    exact J.iret d_X_walker_20 rfl rfl
  · have H := ite_f H q4
    refine J.run b_X_walker_7_4 k_X_walker_7_4 rfl (And.intro (okO_st (S := S2) rfl) (show J w (d + 5) m_X_walker (n0, z0, some (.int z.1), mk c z.2) 13 [some (.ref 33), some (.int x1), some (.int x2)] [.int x2, .int x1, .ref 34] (mk c S2) from ?_))
    obtain ⟨r5, S6, h7, H⟩ := bd_e H
    refine J.callV (y := m_T_hasCourseFor) (av := [.int x1, .int x2]) (rest := []) (q := 34) l_X_138 d_X_walker_13 (isC_st rfl rfl) (c_T_hasCourseFor w (d + 0) c  S2 x1 x2 h7) rfl (Nat.le_of_ble_eq_true rfl) ⟨Nat.le_refl _, Nat.le_refl _⟩ (show J w (d + 5) m_X_walker (n0, z0, some (.int z.1), mk c z.2) 16 [some (.ref 33), some (.int x1), some (.int x2)] [.int r5] (mk c S6) from ?_)
    refine J.zne (tgt := 21) d_X_walker_16 rfl (fun q8 => ?_) (fun q8 => ?_)
    · have H := ite_f H q8
      refine J.run b_X_walker_21_4 k_X_walker_21_4 rfl (And.intro (okO_st (S := S6) rfl) (And.intro (okO_st (S := S6) rfl) (show J w (d + 5) m_X_walker (n0, z0, some (.int z.1), mk c z.2) 29 [some (.ref 33), some (.int x1), some (.int x2)] [.int (4 : Int32), .int (gI S6 34 7)] (mk c S6) from ?_)))
      refine J.clt (tgt := 37) d_X_walker_29 rfl (fun q9 => ?_) (fun q9 => ?_)
      · have H := ite_t H q9
        refine J.run b_X_walker_37_4 k_X_walker_37_4 rfl (And.intro (okO_st (S := S6) rfl) (show J w (d + 5) m_X_walker (n0, z0, some (.int z.1), mk c z.2) 43 [some (.ref 33), some (.int x1), some (.int x2)] [.int x2, .int x1, .ref 34] (mk c S6) from ?_))
        obtain ⟨r10, S11, h12, H⟩ := bd_e H
        refine J.callV (y := m_T_addWalker) (av := [.int x1, .int x2]) (rest := []) (q := 34) l_X_144 d_X_walker_43 (isC_st rfl rfl) (c_T_addWalker w (d + 3) c  S6 x1 x2 h12) rfl (Nat.le_of_ble_eq_true rfl) ⟨Nat.le_refl _, Nat.le_refl _⟩ (show J w (d + 5) m_X_walker (n0, z0, some (.int z.1), mk c z.2) 46 [some (.ref 33), some (.int x1), some (.int x2)] [.int r10] (mk c S11) from ?_)
        obtain rfl := some_e H
        exact J.iret d_X_walker_46 rfl rfl
      · have H := ite_f H q9
        refine J.run b_X_walker_32_1 k_X_walker_32_1 rfl (show J w (d + 5) m_X_walker (n0, z0, some (.int z.1), mk c z.2) 34 [some (.ref 33), some (.int x1), some (.int x2)] [.int (-2 : Int32)] (mk c S6) from ?_)
        refine J.goto (tgt := 46) d_X_walker_34 rfl ?_
        obtain rfl := some_e H
        exact J.iret d_X_walker_46 rfl rfl
    · have H := ite_t H q8
      refine J.run b_X_walker_19_1 k_X_walker_19_1 rfl (show J w (d + 5) m_X_walker (n0, z0, some (.int z.1), mk c z.2) 20 [some (.ref 33), some (.int x1), some (.int x2)] [.int (-1 : Int32)] (mk c S6) from ?_)
      obtain rfl := some_e H
      exact J.iret d_X_walker_20 rfl rfl
def b_X_walkerOf_0_3 : List Ins := [(.aload_n 0, 0, 0, 0), (.getfield 10, 0, 0, 2), (.iload_n 1, 0, 0, 0)]
theorem k_X_walkerOf_0_3 : bok m_X_walkerOf 0 b_X_walkerOf_0_3 = true := by decide +kernel
def b_X_walkerOf_20_1 : List Ins := [(.iconst (-1), 0, 0, 0)]
theorem k_X_walkerOf_20_1 : bok m_X_walkerOf 20 b_X_walkerOf_20_1 = true := by decide +kernel
def b_X_walkerOf_11_1 : List Ins := [(.iload_n 2, 0, 0, 0)]
theorem k_X_walkerOf_11_1 : bok m_X_walkerOf 11 b_X_walkerOf_11_1 = true := by decide +kernel
def b_X_walkerOf_15_2 : List Ins := [(.iload_n 2, 0, 0, 0), (.iconst (3), 0, 0, 0)]
theorem k_X_walkerOf_15_2 : bok m_X_walkerOf 15 b_X_walkerOf_15_2 = true := by decide +kernel
def b_X_walkerOf_22_7 : List Ins := [(.aload_n 0, 0, 0, 0), (.getfield 10, 0, 0, 2), (.getfield 150, 1, 2, 2), (.iload_n 1, 0, 0, 0), (.aaload, 0, 0, 0), (.iload_n 2, 0, 0, 0), (.iaload, 0, 0, 0)]
theorem k_X_walkerOf_22_7 : bok m_X_walkerOf 22 b_X_walkerOf_22_7 = true := by decide +kernel
theorem d_X_walkerOf_5 : decode m_X_walkerOf.2.1 5 = .ok (.invokevirtual 147, 3) := by decide +kernel
theorem d_X_walkerOf_8 : decode m_X_walkerOf.2.1 8 = .ok (.ifCond .eq (12), 3) := by decide +kernel
theorem d_X_walkerOf_21 : decode m_X_walkerOf.2.1 21 = .ok (.ireturn, 1) := by decide +kernel
theorem d_X_walkerOf_12 : decode m_X_walkerOf.2.1 12 = .ok (.ifCond .lt (8), 3) := by decide +kernel
theorem d_X_walkerOf_17 : decode m_X_walkerOf.2.1 17 = .ok (.if_icmp .lt (5), 3) := by decide +kernel
theorem d_X_walkerOf_33 : decode m_X_walkerOf.2.1 33 = .ok (.ireturn, 1) := by decide +kernel
def f_X_walkerOf  (S : hs) (x1 : Int32) (x2 : Int32) : Option (Int32 × hs) := bd (f_T_hasWalker  S x1) fun r1 S2 => (if r1 = 0 then some ((-1 : Int32), S2) else (if x2 < 0 then some ((-1 : Int32), S2) else (if x2 < (3 : Int32) then ck (inb x1 4) (ck (inb x2 3) (some ((gI S2 (70 + (x1).toNatClampNeg) (x2).toNatClampNeg), S2))) else some ((-1 : Int32), S2))))
theorem c_X_walkerOf (w : Wd) (d : Nat) (c : cx)   (S : hs) (x1 : Int32) (x2 : Int32)  {z : Int32 × hs} (H : f_X_walkerOf S x1 x2 = some z) : Cl w (d + 2) m_X_walkerOf [.ref 33, .int x1, .int x2] (mk c S) (some (.int z.1)) (mk c z.2) := by
  refine Cl.of (Nat.le_refl _) (Nat.le_refl _) (by decide +kernel) (Nat.le_of_ble_eq_true rfl) ?_
  unfold f_X_walkerOf at H
  generalize hN (mk c S) = n0
  generalize hZ (mk c S) = z0
  show J w (d + 2) m_X_walkerOf (n0, z0, some (.int z.1), mk c z.2) 0 [some (.ref 33), some (.int x1), some (.int x2)] [] (mk c S)
  refine J.run b_X_walkerOf_0_3 k_X_walkerOf_0_3 rfl (And.intro (okO_st (S := S) rfl) (show J w (d + 2) m_X_walkerOf (n0, z0, some (.int z.1), mk c z.2) 5 [some (.ref 33), some (.int x1), some (.int x2)] [.int x1, .ref 34] (mk c S) from ?_))
  obtain ⟨r1, S2, h3, H⟩ := bd_e H
  refine J.callV (y := m_T_hasWalker) (av := [.int x1]) (rest := []) (q := 34) l_X_147 d_X_walkerOf_5 (isC_st rfl rfl) (c_T_hasWalker w (d + 0) c  S x1 h3) rfl (Nat.le_of_ble_eq_true rfl) ⟨Nat.le_refl _, Nat.le_refl _⟩ (show J w (d + 2) m_X_walkerOf (n0, z0, some (.int z.1), mk c z.2) 8 [some (.ref 33), some (.int x1), some (.int x2)] [.int r1] (mk c S2) from ?_)
  refine J.zeq (tgt := 20) d_X_walkerOf_8 rfl (fun q4 => ?_) (fun q4 => ?_)
  · have H := ite_t H q4
    refine J.run b_X_walkerOf_20_1 k_X_walkerOf_20_1 rfl (show J w (d + 2) m_X_walkerOf (n0, z0, some (.int z.1), mk c z.2) 21 [some (.ref 33), some (.int x1), some (.int x2)] [.int (-1 : Int32)] (mk c S2) from ?_)
    obtain rfl := some_e H
    exact J.iret d_X_walkerOf_21 rfl rfl
  · have H := ite_f H q4
    refine J.run b_X_walkerOf_11_1 k_X_walkerOf_11_1 rfl (show J w (d + 2) m_X_walkerOf (n0, z0, some (.int z.1), mk c z.2) 12 [some (.ref 33), some (.int x1), some (.int x2)] [.int x2] (mk c S2) from ?_)
    refine J.zlt (tgt := 20) d_X_walkerOf_12 rfl (fun q5 => ?_) (fun q5 => ?_)
    · have H := ite_t H q5
      refine J.run b_X_walkerOf_20_1 k_X_walkerOf_20_1 rfl (show J w (d + 2) m_X_walkerOf (n0, z0, some (.int z.1), mk c z.2) 21 [some (.ref 33), some (.int x1), some (.int x2)] [.int (-1 : Int32)] (mk c S2) from ?_)
      obtain rfl := some_e H
      exact J.iret d_X_walkerOf_21 rfl rfl
    · have H := ite_f H q5
      refine J.run b_X_walkerOf_15_2 k_X_walkerOf_15_2 rfl (show J w (d + 2) m_X_walkerOf (n0, z0, some (.int z.1), mk c z.2) 17 [some (.ref 33), some (.int x1), some (.int x2)] [.int (3 : Int32), .int x2] (mk c S2) from ?_)
      refine J.clt (tgt := 22) d_X_walkerOf_17 rfl (fun q6 => ?_) (fun q6 => ?_)
      · have H := ite_t H q6
        obtain ⟨g7, H⟩ := ck_e H
        obtain ⟨g8, H⟩ := ck_e H
        refine J.run b_X_walkerOf_22_7 k_X_walkerOf_22_7 rfl (And.intro (okO_st (S := S2) rfl) (And.intro (okO_st (S := S2) rfl) (And.intro (okQ_st (S := S2) (k := 23) (n := 4) rfl rfl g7) (And.intro (okA_row (S := S2) (b := 70) (cnt := 4) (n := 3) rfl (inb_lt g7) g8) (show J w (d + 2) m_X_walkerOf (n0, z0, some (.int z.1), mk c z.2) 33 [some (.ref 33), some (.int x1), some (.int x2)] [.int (gI S2 (70 + (x1).toNatClampNeg) (x2).toNatClampNeg)] (mk c S2) from ?_)))))
        obtain rfl := some_e H
        exact J.iret d_X_walkerOf_33 rfl rfl
      · have H := ite_f H q6
        refine J.run b_X_walkerOf_20_1 k_X_walkerOf_20_1 rfl (show J w (d + 2) m_X_walkerOf (n0, z0, some (.int z.1), mk c z.2) 21 [some (.ref 33), some (.int x1), some (.int x2)] [.int (-1 : Int32)] (mk c S2) from ?_)
        obtain rfl := some_e H
        exact J.iret d_X_walkerOf_21 rfl rfl
def b_X_go_0_3 : List Ins := [(.aload_n 0, 0, 0, 0), (.getfield 10, 0, 0, 2), (.iload_n 1, 0, 0, 0)]
theorem k_X_go_0_3 : bok m_X_go 0 b_X_go_0_3 = true := by decide +kernel
def b_X_go_18_1 : List Ins := [(.iconst (-1), 0, 0, 0)]
theorem k_X_go_18_1 : bok m_X_go 18 b_X_go_18_1 = true := by decide +kernel
def b_X_go_11_1 : List Ins := [(.iload_n 2, 0, 0, 0)]
theorem k_X_go_11_1 : bok m_X_go 11 b_X_go_11_1 = true := by decide +kernel
def b_X_go_20_12 : List Ins := [(.aload_n 0, 0, 0, 0), (.getfield 10, 0, 0, 2), (.getfield 150, 1, 2, 2), (.iload_n 1, 0, 0, 0), (.aaload, 0, 0, 0), (.astore_n 3, 0, 0, 0), (.aload_n 0, 0, 0, 0), (.getfield 10, 0, 0, 2), (.aload_n 3, 0, 0, 0), (.iconst (0), 0, 0, 0), (.iaload, 0, 0, 0), (.iload_n 2, 0, 0, 0)]
theorem k_X_go_20_12 : bok m_X_go 20 b_X_go_20_12 = true := by decide +kernel
def b_X_go_41_1 : List Ins := [(.iconst (-1), 0, 0, 0)]
theorem k_X_go_41_1 : bok m_X_go 41 b_X_go_41_1 = true := by decide +kernel
def b_X_go_48_9 : List Ins := [(.aload_n 0, 0, 0, 0), (.getfield 10, 0, 0, 2), (.aload_n 3, 0, 0, 0), (.iconst (0), 0, 0, 0), (.iaload, 0, 0, 0), (.iload_n 2, 0, 0, 0), (.aload_n 3, 0, 0, 0), (.iconst (1), 0, 0, 0), (.iaload, 0, 0, 0)]
theorem k_X_go_48_9 : bok m_X_go 48 b_X_go_48_9 = true := by decide +kernel
def b_X_go_68_11 : List Ins := [(.aload_n 3, 0, 0, 0), (.iconst (0), 0, 0, 0), (.iload_n 2, 0, 0, 0), (.iastore, 0, 0, 0), (.aload_n 3, 0, 0, 0), (.iconst (2), 0, 0, 0), (.dup2, 0, 0, 0), (.iaload, 0, 0, 0), (.aload_n 0, 0, 0, 0), (.getfield 10, 0, 0, 2), (.iload_n 2, 0, 0, 0)]
theorem k_X_go_68_11 : bok m_X_go 68 b_X_go_68_11 = true := by decide +kernel
def b_X_go_84_5 : List Ins := [(.iadd, 0, 0, 0), (.iastore, 0, 0, 0), (.aload_n 3, 0, 0, 0), (.iconst (2), 0, 0, 0), (.iaload, 0, 0, 0)]
theorem k_X_go_84_5 : bok m_X_go 84 b_X_go_84_5 = true := by decide +kernel
def b_X_go_65_1 : List Ins := [(.bipush (-4), 0, 0, 0)]
theorem k_X_go_65_1 : bok m_X_go 65 b_X_go_65_1 = true := by decide +kernel
def b_X_go_45_1 : List Ins := [(.bipush (-3), 0, 0, 0)]
theorem k_X_go_45_1 : bok m_X_go 45 b_X_go_45_1 = true := by decide +kernel
theorem d_X_go_5 : decode m_X_go.2.1 5 = .ok (.invokevirtual 147, 3) := by decide +kernel
theorem d_X_go_8 : decode m_X_go.2.1 8 = .ok (.ifCond .eq (10), 3) := by decide +kernel
theorem d_X_go_19 : decode m_X_go.2.1 19 = .ok (.ireturn, 1) := by decide +kernel
theorem d_X_go_12 : decode m_X_go.2.1 12 = .ok (.invokestatic 125, 3) := by decide +kernel
theorem d_X_go_15 : decode m_X_go.2.1 15 = .ok (.ifCond .ne (5), 3) := by decide +kernel
theorem d_X_go_38 : decode m_X_go.2.1 38 = .ok (.invokevirtual 128, 3) := by decide +kernel
theorem d_X_go_42 : decode m_X_go.2.1 42 = .ok (.if_icmp .ne (6), 3) := by decide +kernel
theorem d_X_go_59 : decode m_X_go.2.1 59 = .ok (.invokevirtual 134, 3) := by decide +kernel
theorem d_X_go_62 : decode m_X_go.2.1 62 = .ok (.ifCond .ne (6), 3) := by decide +kernel
theorem d_X_go_81 : decode m_X_go.2.1 81 = .ok (.invokevirtual 153, 3) := by decide +kernel
theorem d_X_go_89 : decode m_X_go.2.1 89 = .ok (.ireturn, 1) := by decide +kernel
theorem d_X_go_67 : decode m_X_go.2.1 67 = .ok (.ireturn, 1) := by decide +kernel
theorem d_X_go_47 : decode m_X_go.2.1 47 = .ok (.ireturn, 1) := by decide +kernel
def f_X_go  (S : hs) (x1 : Int32) (x2 : Int32) : Option (Int32 × hs) := bd (f_T_hasWalker  S x1) fun r1 S2 => (if r1 = 0 then some ((-1 : Int32), S2) else bd (f_X_isCourseNumber  S2 x2) fun r5 S6 => (if r5 = 0 then some ((-1 : Int32), S6) else ck (inb x1 4) (bd (f_T_turnNow  S6 (gI S6 (70 + (x1).toNatClampNeg) 0) x2) fun r10 S11 => (if r10 = (-1 : Int32) then some ((-3 : Int32), S11) else bd (f_T_mayGo  S11 (gI S11 (70 + (x1).toNatClampNeg) 0) x2 (gI S11 (70 + (x1).toNatClampNeg) 1)) fun r14 S15 => (if r14 = 0 then some ((-4 : Int32), S15) else bd (f_T_longOf  (uI S15 (70 + (x1).toNatClampNeg) 0 x2) x2) fun r18 S19 => some ((gI (uI S19 (70 + (x1).toNatClampNeg) 2 ((gI (uI S15 (70 + (x1).toNatClampNeg) 0 x2) (70 + (x1).toNatClampNeg) 2) + r18)) (70 + (x1).toNatClampNeg) 2), (uI S19 (70 + (x1).toNatClampNeg) 2 ((gI (uI S15 (70 + (x1).toNatClampNeg) 0 x2) (70 + (x1).toNatClampNeg) 2) + r18))))))))
theorem c_X_go (w : Wd) (d : Nat) (c : cx)   (S : hs) (x1 : Int32) (x2 : Int32)  {z : Int32 × hs} (H : f_X_go S x1 x2 = some z) : Cl w (d + 6) m_X_go [.ref 33, .int x1, .int x2] (mk c S) (some (.int z.1)) (mk c z.2) := by
  refine Cl.of (Nat.le_refl _) (Nat.le_refl _) (by decide +kernel) (Nat.le_of_ble_eq_true rfl) ?_
  unfold f_X_go at H
  generalize hN (mk c S) = n0
  generalize hZ (mk c S) = z0
  show J w (d + 6) m_X_go (n0, z0, some (.int z.1), mk c z.2) 0 [some (.ref 33), some (.int x1), some (.int x2), none] [] (mk c S)
  refine J.run b_X_go_0_3 k_X_go_0_3 rfl (And.intro (okO_st (S := S) rfl) (show J w (d + 6) m_X_go (n0, z0, some (.int z.1), mk c z.2) 5 [some (.ref 33), some (.int x1), some (.int x2), none] [.int x1, .ref 34] (mk c S) from ?_))
  obtain ⟨r1, S2, h3, H⟩ := bd_e H
  refine J.callV (y := m_T_hasWalker) (av := [.int x1]) (rest := []) (q := 34) l_X_147 d_X_go_5 (isC_st rfl rfl) (c_T_hasWalker w (d + 4) c  S x1 h3) rfl (Nat.le_of_ble_eq_true rfl) ⟨Nat.le_refl _, Nat.le_refl _⟩ (show J w (d + 6) m_X_go (n0, z0, some (.int z.1), mk c z.2) 8 [some (.ref 33), some (.int x1), some (.int x2), none] [.int r1] (mk c S2) from ?_)
  refine J.zeq (tgt := 18) d_X_go_8 rfl (fun q4 => ?_) (fun q4 => ?_)
  · have H := ite_t H q4
    refine J.run b_X_go_18_1 k_X_go_18_1 rfl (show J w (d + 6) m_X_go (n0, z0, some (.int z.1), mk c z.2) 19 [some (.ref 33), some (.int x1), some (.int x2), none] [.int (-1 : Int32)] (mk c S2) from ?_)
    obtain rfl := some_e H
    exact J.iret d_X_go_19 rfl rfl
  · have H := ite_f H q4
    refine J.run b_X_go_11_1 k_X_go_11_1 rfl (show J w (d + 6) m_X_go (n0, z0, some (.int z.1), mk c z.2) 12 [some (.ref 33), some (.int x1), some (.int x2), none] [.int x2] (mk c S2) from ?_)
    obtain ⟨r5, S6, h7, H⟩ := bd_e H
    refine J.callS (y := m_X_isCourseNumber) (av := [.int x2]) (rest := []) l_X_125 d_X_go_12 (c_X_isCourseNumber w (d + 4) c  S2 x2 h7) rfl (Nat.le_of_ble_eq_true rfl) ⟨Nat.le_refl _, Nat.le_refl _⟩ (show J w (d + 6) m_X_go (n0, z0, some (.int z.1), mk c z.2) 15 [some (.ref 33), some (.int x1), some (.int x2), none] [.int r5] (mk c S6) from ?_)
    refine J.zne (tgt := 20) d_X_go_15 rfl (fun q8 => ?_) (fun q8 => ?_)
    · have H := ite_f H q8
      obtain ⟨g9, H⟩ := ck_e H
      refine J.run b_X_go_20_12 k_X_go_20_12 rfl (And.intro (okO_st (S := S6) rfl) (And.intro (okO_st (S := S6) rfl) (And.intro (okQ_st (S := S6) (k := 23) (n := 4) rfl rfl g9) (And.intro (okO_st (S := S6) rfl) (And.intro (okA_row (S := S6) (b := 70) (cnt := 4) (n := 3) rfl (inb_lt g9) rfl) (show J w (d + 6) m_X_go (n0, z0, some (.int z.1), mk c z.2) 38 [some (.ref 33), some (.int x1), some (.int x2), some (.ref (70 + (x1).toNatClampNeg))] [.int x2, .int (gI S6 (70 + (x1).toNatClampNeg) 0), .ref 34] (mk c S6) from ?_))))))
      obtain ⟨r10, S11, h12, H⟩ := bd_e H
      refine J.callV (y := m_T_turnNow) (av := [.int (gI S6 (70 + (x1).toNatClampNeg) 0), .int x2]) (rest := []) (q := 34) l_X_128 d_X_go_38 (isC_st rfl rfl) (c_T_turnNow w (d + 1) c  S6 (gI S6 (70 + (x1).toNatClampNeg) 0) x2 h12) rfl (Nat.le_of_ble_eq_true rfl) ⟨Nat.le_refl _, Nat.le_refl _⟩ (show J w (d + 6) m_X_go (n0, z0, some (.int z.1), mk c z.2) 41 [some (.ref 33), some (.int x1), some (.int x2), some (.ref (70 + (x1).toNatClampNeg))] [.int r10] (mk c S11) from ?_)
      refine J.run b_X_go_41_1 k_X_go_41_1 rfl (show J w (d + 6) m_X_go (n0, z0, some (.int z.1), mk c z.2) 42 [some (.ref 33), some (.int x1), some (.int x2), some (.ref (70 + (x1).toNatClampNeg))] [.int (-1 : Int32), .int r10] (mk c S11) from ?_)
      refine J.cne (tgt := 48) d_X_go_42 rfl (fun q13 => ?_) (fun q13 => ?_)
      · have H := ite_f H q13
        refine J.run b_X_go_48_9 k_X_go_48_9 rfl (And.intro (okO_st (S := S11) rfl) (And.intro (okA_row (S := S11) (b := 70) (cnt := 4) (n := 3) rfl (inb_lt g9) rfl) (And.intro (okA_row (S := S11) (b := 70) (cnt := 4) (n := 3) rfl (inb_lt g9) rfl) (show J w (d + 6) m_X_go (n0, z0, some (.int z.1), mk c z.2) 59 [some (.ref 33), some (.int x1), some (.int x2), some (.ref (70 + (x1).toNatClampNeg))] [.int (gI S11 (70 + (x1).toNatClampNeg) 1), .int x2, .int (gI S11 (70 + (x1).toNatClampNeg) 0), .ref 34] (mk c S11) from ?_))))
        obtain ⟨r14, S15, h16, H⟩ := bd_e H
        refine J.callV (y := m_T_mayGo) (av := [.int (gI S11 (70 + (x1).toNatClampNeg) 0), .int x2, .int (gI S11 (70 + (x1).toNatClampNeg) 1)]) (rest := []) (q := 34) l_X_134 d_X_go_59 (isC_st rfl rfl) (c_T_mayGo w (d + 0) c  S11 (gI S11 (70 + (x1).toNatClampNeg) 0) x2 (gI S11 (70 + (x1).toNatClampNeg) 1) h16) rfl (Nat.le_of_ble_eq_true rfl) ⟨Nat.le_refl _, Nat.le_refl _⟩ (show J w (d + 6) m_X_go (n0, z0, some (.int z.1), mk c z.2) 62 [some (.ref 33), some (.int x1), some (.int x2), some (.ref (70 + (x1).toNatClampNeg))] [.int r14] (mk c S15) from ?_)
        refine J.zne (tgt := 68) d_X_go_62 rfl (fun q17 => ?_) (fun q17 => ?_)
        · have H := ite_f H q17
          refine J.run b_X_go_68_11 k_X_go_68_11 rfl (And.intro (okB_row (S := S15) (b := 70) (cnt := 4) (n := 3) rfl (inb_lt g9) rfl) (And.intro (okA_row (S := (uI S15 (70 + (x1).toNatClampNeg) 0 x2)) (b := 70) (cnt := 4) (n := 3) rfl (inb_lt g9) rfl) (And.intro (okO_st (S := (uI S15 (70 + (x1).toNatClampNeg) 0 x2)) rfl) (show J w (d + 6) m_X_go (n0, z0, some (.int z.1), mk c z.2) 81 [some (.ref 33), some (.int x1), some (.int x2), some (.ref (70 + (x1).toNatClampNeg))] [.int x2, .ref 34, .int (gI (uI S15 (70 + (x1).toNatClampNeg) 0 x2) (70 + (x1).toNatClampNeg) 2), .int (2 : Int32), .ref (70 + (x1).toNatClampNeg)] (mk c (uI S15 (70 + (x1).toNatClampNeg) 0 x2)) from ?_))))
          obtain ⟨r18, S19, h20, H⟩ := bd_e H
          refine J.callV (y := m_T_longOf) (av := [.int x2]) (rest := [.int (gI (uI S15 (70 + (x1).toNatClampNeg) 0 x2) (70 + (x1).toNatClampNeg) 2), .int (2 : Int32), .ref (70 + (x1).toNatClampNeg)]) (q := 34) l_X_153 d_X_go_81 (isC_st rfl rfl) (c_T_longOf w (d + 3) c  (uI S15 (70 + (x1).toNatClampNeg) 0 x2) x2 h20) rfl (Nat.le_of_ble_eq_true rfl) ⟨Nat.le_refl _, Nat.le_refl _⟩ (show J w (d + 6) m_X_go (n0, z0, some (.int z.1), mk c z.2) 84 [some (.ref 33), some (.int x1), some (.int x2), some (.ref (70 + (x1).toNatClampNeg))] [.int r18, .int (gI (uI S15 (70 + (x1).toNatClampNeg) 0 x2) (70 + (x1).toNatClampNeg) 2), .int (2 : Int32), .ref (70 + (x1).toNatClampNeg)] (mk c S19) from ?_)
          refine J.run b_X_go_84_5 k_X_go_84_5 rfl (And.intro (okB_row (S := S19) (b := 70) (cnt := 4) (n := 3) rfl (inb_lt g9) rfl) (And.intro (okA_row (S := (uI S19 (70 + (x1).toNatClampNeg) 2 ((gI (uI S15 (70 + (x1).toNatClampNeg) 0 x2) (70 + (x1).toNatClampNeg) 2) + r18))) (b := 70) (cnt := 4) (n := 3) rfl (inb_lt g9) rfl) (show J w (d + 6) m_X_go (n0, z0, some (.int z.1), mk c z.2) 89 [some (.ref 33), some (.int x1), some (.int x2), some (.ref (70 + (x1).toNatClampNeg))] [.int (gI (uI S19 (70 + (x1).toNatClampNeg) 2 ((gI (uI S15 (70 + (x1).toNatClampNeg) 0 x2) (70 + (x1).toNatClampNeg) 2) + r18)) (70 + (x1).toNatClampNeg) 2)] (mk c (uI S19 (70 + (x1).toNatClampNeg) 2 ((gI (uI S15 (70 + (x1).toNatClampNeg) 0 x2) (70 + (x1).toNatClampNeg) 2) + r18))) from ?_)))
          obtain rfl := some_e H
          exact J.iret d_X_go_89 rfl rfl
        · have H := ite_t H q17
          refine J.run b_X_go_65_1 k_X_go_65_1 rfl (show J w (d + 6) m_X_go (n0, z0, some (.int z.1), mk c z.2) 67 [some (.ref 33), some (.int x1), some (.int x2), some (.ref (70 + (x1).toNatClampNeg))] [.int (-4 : Int32)] (mk c S15) from ?_)
          obtain rfl := some_e H
          exact J.iret d_X_go_67 rfl rfl
      · have H := ite_t H q13
        refine J.run b_X_go_45_1 k_X_go_45_1 rfl (show J w (d + 6) m_X_go (n0, z0, some (.int z.1), mk c z.2) 47 [some (.ref 33), some (.int x1), some (.int x2), some (.ref (70 + (x1).toNatClampNeg))] [.int (-3 : Int32)] (mk c S11) from ?_)
        obtain rfl := some_e H
        exact J.iret d_X_go_47 rfl rfl
    · have H := ite_t H q8
      refine J.run b_X_go_18_1 k_X_go_18_1 rfl (show J w (d + 6) m_X_go (n0, z0, some (.int z.1), mk c z.2) 19 [some (.ref 33), some (.int x1), some (.int x2), none] [.int (-1 : Int32)] (mk c S6) from ?_)
      obtain rfl := some_e H
      exact J.iret d_X_go_19 rfl rfl
def b_X_put_0_3 : List Ins := [(.aload_n 0, 0, 0, 0), (.getfield 10, 0, 0, 2), (.iload_n 1, 0, 0, 0)]
theorem k_X_put_0_3 : bok m_X_put 0 b_X_put_0_3 = true := by decide +kernel
def b_X_put_33_1 : List Ins := [(.iconst (-1), 0, 0, 0)]
theorem k_X_put_33_1 : bok m_X_put 33 b_X_put_33_1 = true := by decide +kernel
def b_X_put_11_10 : List Ins := [(.aload_n 0, 0, 0, 0), (.getfield 10, 0, 0, 2), (.iload_n 2, 0, 0, 0), (.aload_n 0, 0, 0, 0), (.getfield 10, 0, 0, 2), (.getfield 150, 1, 2, 2), (.iload_n 1, 0, 0, 0), (.aaload, 0, 0, 0), (.iconst (1), 0, 0, 0), (.iaload, 0, 0, 0)]
theorem k_X_put_11_10 : bok m_X_put 11 b_X_put_11_10 = true := by decide +kernel
def b_X_put_35_9 : List Ins := [(.aload_n 0, 0, 0, 0), (.getfield 10, 0, 0, 2), (.getfield 150, 1, 2, 2), (.iload_n 1, 0, 0, 0), (.aaload, 0, 0, 0), (.iconst (0), 0, 0, 0), (.iload_n 2, 0, 0, 0), (.iastore, 0, 0, 0), (.iconst (1), 0, 0, 0)]
theorem k_X_put_35_9 : bok m_X_put 35 b_X_put_35_9 = true := by decide +kernel
theorem d_X_put_5 : decode m_X_put.2.1 5 = .ok (.invokevirtual 147, 3) := by decide +kernel
theorem d_X_put_8 : decode m_X_put.2.1 8 = .ok (.ifCond .eq (25), 3) := by decide +kernel
theorem d_X_put_34 : decode m_X_put.2.1 34 = .ok (.ireturn, 1) := by decide +kernel
theorem d_X_put_27 : decode m_X_put.2.1 27 = .ok (.invokevirtual 138, 3) := by decide +kernel
theorem d_X_put_30 : decode m_X_put.2.1 30 = .ok (.ifCond .ne (5), 3) := by decide +kernel
theorem d_X_put_48 : decode m_X_put.2.1 48 = .ok (.ireturn, 1) := by decide +kernel
def f_X_put  (S : hs) (x1 : Int32) (x2 : Int32) : Option (Int32 × hs) := bd (f_T_hasWalker  S x1) fun r1 S2 => (if r1 = 0 then some ((-1 : Int32), S2) else ck (inb x1 4) (bd (f_T_hasCourseFor  S2 x2 (gI S2 (70 + (x1).toNatClampNeg) 1)) fun r6 S7 => (if r6 = 0 then some ((-1 : Int32), S7) else some ((1 : Int32), (uI S7 (70 + (x1).toNatClampNeg) 0 x2)))))
theorem c_X_put (w : Wd) (d : Nat) (c : cx)   (S : hs) (x1 : Int32) (x2 : Int32)  {z : Int32 × hs} (H : f_X_put S x1 x2 = some z) : Cl w (d + 5) m_X_put [.ref 33, .int x1, .int x2] (mk c S) (some (.int z.1)) (mk c z.2) := by
  refine Cl.of (Nat.le_refl _) (Nat.le_refl _) (by decide +kernel) (Nat.le_of_ble_eq_true rfl) ?_
  unfold f_X_put at H
  generalize hN (mk c S) = n0
  generalize hZ (mk c S) = z0
  show J w (d + 5) m_X_put (n0, z0, some (.int z.1), mk c z.2) 0 [some (.ref 33), some (.int x1), some (.int x2)] [] (mk c S)
  refine J.run b_X_put_0_3 k_X_put_0_3 rfl (And.intro (okO_st (S := S) rfl) (show J w (d + 5) m_X_put (n0, z0, some (.int z.1), mk c z.2) 5 [some (.ref 33), some (.int x1), some (.int x2)] [.int x1, .ref 34] (mk c S) from ?_))
  obtain ⟨r1, S2, h3, H⟩ := bd_e H
  refine J.callV (y := m_T_hasWalker) (av := [.int x1]) (rest := []) (q := 34) l_X_147 d_X_put_5 (isC_st rfl rfl) (c_T_hasWalker w (d + 3) c  S x1 h3) rfl (Nat.le_of_ble_eq_true rfl) ⟨Nat.le_refl _, Nat.le_refl _⟩ (show J w (d + 5) m_X_put (n0, z0, some (.int z.1), mk c z.2) 8 [some (.ref 33), some (.int x1), some (.int x2)] [.int r1] (mk c S2) from ?_)
  refine J.zeq (tgt := 33) d_X_put_8 rfl (fun q4 => ?_) (fun q4 => ?_)
  · have H := ite_t H q4
    refine J.run b_X_put_33_1 k_X_put_33_1 rfl (show J w (d + 5) m_X_put (n0, z0, some (.int z.1), mk c z.2) 34 [some (.ref 33), some (.int x1), some (.int x2)] [.int (-1 : Int32)] (mk c S2) from ?_)
    obtain rfl := some_e H
    exact J.iret d_X_put_34 rfl rfl
  · have H := ite_f H q4
    obtain ⟨g5, H⟩ := ck_e H
    refine J.run b_X_put_11_10 k_X_put_11_10 rfl (And.intro (okO_st (S := S2) rfl) (And.intro (okO_st (S := S2) rfl) (And.intro (okO_st (S := S2) rfl) (And.intro (okQ_st (S := S2) (k := 23) (n := 4) rfl rfl g5) (And.intro (okA_row (S := S2) (b := 70) (cnt := 4) (n := 3) rfl (inb_lt g5) rfl) (show J w (d + 5) m_X_put (n0, z0, some (.int z.1), mk c z.2) 27 [some (.ref 33), some (.int x1), some (.int x2)] [.int (gI S2 (70 + (x1).toNatClampNeg) 1), .int x2, .ref 34] (mk c S2) from ?_))))))
    obtain ⟨r6, S7, h8, H⟩ := bd_e H
    refine J.callV (y := m_T_hasCourseFor) (av := [.int x2, .int (gI S2 (70 + (x1).toNatClampNeg) 1)]) (rest := []) (q := 34) l_X_138 d_X_put_27 (isC_st rfl rfl) (c_T_hasCourseFor w (d + 0) c  S2 x2 (gI S2 (70 + (x1).toNatClampNeg) 1) h8) rfl (Nat.le_of_ble_eq_true rfl) ⟨Nat.le_refl _, Nat.le_refl _⟩ (show J w (d + 5) m_X_put (n0, z0, some (.int z.1), mk c z.2) 30 [some (.ref 33), some (.int x1), some (.int x2)] [.int r6] (mk c S7) from ?_)
    refine J.zne (tgt := 35) d_X_put_30 rfl (fun q9 => ?_) (fun q9 => ?_)
    · have H := ite_f H q9
      refine J.run b_X_put_35_9 k_X_put_35_9 rfl (And.intro (okO_st (S := S7) rfl) (And.intro (okO_st (S := S7) rfl) (And.intro (okQ_st (S := S7) (k := 23) (n := 4) rfl rfl g5) (And.intro (okB_row (S := S7) (b := 70) (cnt := 4) (n := 3) rfl (inb_lt g5) rfl) (show J w (d + 5) m_X_put (n0, z0, some (.int z.1), mk c z.2) 48 [some (.ref 33), some (.int x1), some (.int x2)] [.int (1 : Int32)] (mk c (uI S7 (70 + (x1).toNatClampNeg) 0 x2)) from ?_)))))
      obtain rfl := some_e H
      exact J.iret d_X_put_48 rfl rfl
    · have H := ite_t H q9
      refine J.run b_X_put_33_1 k_X_put_33_1 rfl (show J w (d + 5) m_X_put (n0, z0, some (.int z.1), mk c z.2) 34 [some (.ref 33), some (.int x1), some (.int x2)] [.int (-1 : Int32)] (mk c S7) from ?_)
      obtain rfl := some_e H
      exact J.iret d_X_put_34 rfl rfl
def b_X_far_0_3 : List Ins := [(.aload_n 0, 0, 0, 0), (.getfield 10, 0, 0, 2), (.iload_n 1, 0, 0, 0)]
theorem k_X_far_0_3 : bok m_X_far 0 b_X_far_0_3 = true := by decide +kernel
def b_X_far_29_1 : List Ins := [(.iconst (-1), 0, 0, 0)]
theorem k_X_far_29_1 : bok m_X_far 29 b_X_far_29_1 = true := by decide +kernel
def b_X_far_11_3 : List Ins := [(.aload_n 0, 0, 0, 0), (.getfield 10, 0, 0, 2), (.iload_n 2, 0, 0, 0)]
theorem k_X_far_11_3 : bok m_X_far 11 b_X_far_11_3 = true := by decide +kernel
def b_X_far_22_1 : List Ins := [(.iload_n 3, 0, 0, 0)]
theorem k_X_far_22_1 : bok m_X_far 22 b_X_far_22_1 = true := by decide +kernel
def b_X_far_31_6 : List Ins := [(.aload_n 0, 0, 0, 0), (.getfield 29, 0, 3, 2), (.aload_n 0, 0, 0, 0), (.getfield 10, 0, 0, 2), (.iload_n 3, 0, 0, 0), (.iconst (-1), 0, 0, 0)]
theorem k_X_far_31_6 : bok m_X_far 31 b_X_far_31_6 = true := by decide +kernel
def b_X_far_44_3 : List Ins := [(.aload_n 0, 0, 0, 0), (.getfield 29, 0, 3, 2), (.iload_n 2, 0, 0, 0)]
theorem k_X_far_44_3 : bok m_X_far 44 b_X_far_44_3 = true := by decide +kernel
def b_X_far_52_3 : List Ins := [(.aload_n 0, 0, 0, 0), (.getfield 29, 0, 3, 2), (.iload_n 1, 0, 0, 0)]
theorem k_X_far_52_3 : bok m_X_far 52 b_X_far_52_3 = true := by decide +kernel
def b_X_far_60_3 : List Ins := [(.istore 4, 0, 0, 0), (.iload 4, 0, 0, 0), (.ldc 170, 0, 1000000, 0)]
theorem k_X_far_60_3 : bok m_X_far 60 b_X_far_60_3 = true := by decide +kernel
def b_X_far_74_1 : List Ins := [(.iload 4, 0, 0, 0)]
theorem k_X_far_74_1 : bok m_X_far 74 b_X_far_74_1 = true := by decide +kernel
def b_X_far_69_1 : List Ins := [(.bipush (-3), 0, 0, 0)]
theorem k_X_far_69_1 : bok m_X_far 69 b_X_far_69_1 = true := by decide +kernel
theorem d_X_far_5 : decode m_X_far.2.1 5 = .ok (.invokevirtual 156, 3) := by decide +kernel
theorem d_X_far_8 : decode m_X_far.2.1 8 = .ok (.ifCond .eq (21), 3) := by decide +kernel
theorem d_X_far_30 : decode m_X_far.2.1 30 = .ok (.ireturn, 1) := by decide +kernel
theorem d_X_far_16 : decode m_X_far.2.1 16 = .ok (.invokevirtual 68, 3) := by decide +kernel
theorem d_X_far_19 : decode m_X_far.2.1 19 = .ok (.ifCond .eq (10), 3) := by decide +kernel
theorem d_X_far_23 : decode m_X_far.2.1 23 = .ok (.invokestatic 131, 3) := by decide +kernel
theorem d_X_far_26 : decode m_X_far.2.1 26 = .ok (.ifCond .ne (5), 3) := by decide +kernel
theorem d_X_far_41 : decode m_X_far.2.1 41 = .ok (.invokevirtual 159, 3) := by decide +kernel
theorem d_X_far_49 : decode m_X_far.2.1 49 = .ok (.invokevirtual 163, 3) := by decide +kernel
theorem d_X_far_57 : decode m_X_far.2.1 57 = .ok (.invokevirtual 167, 3) := by decide +kernel
theorem d_X_far_66 : decode m_X_far.2.1 66 = .ok (.if_icmp .ne (8), 3) := by decide +kernel
theorem d_X_far_76 : decode m_X_far.2.1 76 = .ok (.ireturn, 1) := by decide +kernel
theorem d_X_far_71 : decode m_X_far.2.1 71 = .ok (.goto (5), 3) := by decide +kernel
def f_X_far  (S : hs) (x1 : Int32) (x2 : Int32) (x3 : Int32) : Option (Int32 × hs) := bd (f_T_hasCourse  S x1) fun r1 S2 => (if r1 = 0 then some ((-1 : Int32), S2) else bd (f_T_hasCrossing  S2 x2) fun r5 S6 => (if r5 = 0 then some ((-1 : Int32), S6) else bd (f_X_isWidth  S6 x3) fun r9 S10 => (if r9 = 0 then some ((-1 : Int32), S10) else bd (f_W_prepare_34  S10 x3 (-1 : Int32)) fun r13 S14 => bd (f_W_measureTo  S14 x2) fun r16 S17 => bd (f_W_leftFrom  S17 x1) fun r19 S20 => (if r19 = (1000000 : Int32) then some ((-3 : Int32), S20) else some (r19, S20)))))
theorem c_X_far (w : Wd) (d : Nat) (c : cx)   (S : hs) (x1 : Int32) (x2 : Int32) (x3 : Int32)  {z : Int32 × hs} (H : f_X_far S x1 x2 x3 = some z) : Cl w (d + 7) m_X_far [.ref 33, .int x1, .int x2, .int x3] (mk c S) (some (.int z.1)) (mk c z.2) := by
  refine Cl.of (Nat.le_refl _) (Nat.le_refl _) (by decide +kernel) (Nat.le_of_ble_eq_true rfl) ?_
  unfold f_X_far at H
  generalize hN (mk c S) = n0
  generalize hZ (mk c S) = z0
  show J w (d + 7) m_X_far (n0, z0, some (.int z.1), mk c z.2) 0 [some (.ref 33), some (.int x1), some (.int x2), some (.int x3), none] [] (mk c S)
  refine J.run b_X_far_0_3 k_X_far_0_3 rfl (And.intro (okO_st (S := S) rfl) (show J w (d + 7) m_X_far (n0, z0, some (.int z.1), mk c z.2) 5 [some (.ref 33), some (.int x1), some (.int x2), some (.int x3), none] [.int x1, .ref 34] (mk c S) from ?_))
  obtain ⟨r1, S2, h3, H⟩ := bd_e H
  refine J.callV (y := m_T_hasCourse) (av := [.int x1]) (rest := []) (q := 34) l_X_156 d_X_far_5 (isC_st rfl rfl) (c_T_hasCourse w (d + 3) c  S x1 h3) rfl (Nat.le_of_ble_eq_true rfl) ⟨Nat.le_refl _, Nat.le_refl _⟩ (show J w (d + 7) m_X_far (n0, z0, some (.int z.1), mk c z.2) 8 [some (.ref 33), some (.int x1), some (.int x2), some (.int x3), none] [.int r1] (mk c S2) from ?_)
  refine J.zeq (tgt := 29) d_X_far_8 rfl (fun q4 => ?_) (fun q4 => ?_)
  · have H := ite_t H q4
    refine J.run b_X_far_29_1 k_X_far_29_1 rfl (show J w (d + 7) m_X_far (n0, z0, some (.int z.1), mk c z.2) 30 [some (.ref 33), some (.int x1), some (.int x2), some (.int x3), none] [.int (-1 : Int32)] (mk c S2) from ?_)
    obtain rfl := some_e H
    exact J.iret d_X_far_30 rfl rfl
  · have H := ite_f H q4
    refine J.run b_X_far_11_3 k_X_far_11_3 rfl (And.intro (okO_st (S := S2) rfl) (show J w (d + 7) m_X_far (n0, z0, some (.int z.1), mk c z.2) 16 [some (.ref 33), some (.int x1), some (.int x2), some (.int x3), none] [.int x2, .ref 34] (mk c S2) from ?_))
    obtain ⟨r5, S6, h7, H⟩ := bd_e H
    refine J.callV (y := m_T_hasCrossing) (av := [.int x2]) (rest := []) (q := 34) l_X_68 d_X_far_16 (isC_st rfl rfl) (c_T_hasCrossing w (d + 5) c  S2 x2 h7) rfl (Nat.le_of_ble_eq_true rfl) ⟨Nat.le_refl _, Nat.le_refl _⟩ (show J w (d + 7) m_X_far (n0, z0, some (.int z.1), mk c z.2) 19 [some (.ref 33), some (.int x1), some (.int x2), some (.int x3), none] [.int r5] (mk c S6) from ?_)
    refine J.zeq (tgt := 29) d_X_far_19 rfl (fun q8 => ?_) (fun q8 => ?_)
    · have H := ite_t H q8
      refine J.run b_X_far_29_1 k_X_far_29_1 rfl (show J w (d + 7) m_X_far (n0, z0, some (.int z.1), mk c z.2) 30 [some (.ref 33), some (.int x1), some (.int x2), some (.int x3), none] [.int (-1 : Int32)] (mk c S6) from ?_)
      obtain rfl := some_e H
      exact J.iret d_X_far_30 rfl rfl
    · have H := ite_f H q8
      refine J.run b_X_far_22_1 k_X_far_22_1 rfl (show J w (d + 7) m_X_far (n0, z0, some (.int z.1), mk c z.2) 23 [some (.ref 33), some (.int x1), some (.int x2), some (.int x3), none] [.int x3] (mk c S6) from ?_)
      obtain ⟨r9, S10, h11, H⟩ := bd_e H
      refine J.callS (y := m_X_isWidth) (av := [.int x3]) (rest := []) l_X_131 d_X_far_23 (c_X_isWidth w (d + 5) c  S6 x3 h11) rfl (Nat.le_of_ble_eq_true rfl) ⟨Nat.le_refl _, Nat.le_refl _⟩ (show J w (d + 7) m_X_far (n0, z0, some (.int z.1), mk c z.2) 26 [some (.ref 33), some (.int x1), some (.int x2), some (.int x3), none] [.int r9] (mk c S10) from ?_)
      refine J.zne (tgt := 31) d_X_far_26 rfl (fun q12 => ?_) (fun q12 => ?_)
      · have H := ite_f H q12
        refine J.run b_X_far_31_6 k_X_far_31_6 rfl (And.intro (okO_st (S := S10) rfl) (And.intro (okO_st (S := S10) rfl) (show J w (d + 7) m_X_far (n0, z0, some (.int z.1), mk c z.2) 41 [some (.ref 33), some (.int x1), some (.int x2), some (.int x3), none] [.int (-1 : Int32), .int x3, .ref 34, .ref 138] (mk c S10) from ?_)))
        obtain ⟨r13, S14, h15, H⟩ := bd_e H
        refine J.callV (y := m_W_prepare) (av := [.ref 34, .int x3, .int (-1 : Int32)]) (rest := []) (q := 138) l_X_159 d_X_far_41 (isC_st rfl rfl) (c_W_prepare_34 w (d + 0) c  S10 x3 (-1 : Int32) h15) rfl (Nat.le_of_ble_eq_true rfl) ⟨Nat.le_refl _, Nat.le_refl _⟩ (show J w (d + 7) m_X_far (n0, z0, some (.int z.1), mk c z.2) 44 [some (.ref 33), some (.int x1), some (.int x2), some (.int x3), none] [] (mk c S14) from ?_)
        refine J.run b_X_far_44_3 k_X_far_44_3 rfl (And.intro (okO_st (S := S14) rfl) (show J w (d + 7) m_X_far (n0, z0, some (.int z.1), mk c z.2) 49 [some (.ref 33), some (.int x1), some (.int x2), some (.int x3), none] [.int x2, .ref 138] (mk c S14) from ?_))
        obtain ⟨r16, S17, h18, H⟩ := bd_e H
        refine J.callV (y := m_W_measureTo) (av := [.int x2]) (rest := []) (q := 138) l_X_163 d_X_far_49 (isC_st rfl rfl) (c_W_measureTo w (d + 2) c  S14 x2 h18) rfl (Nat.le_of_ble_eq_true rfl) ⟨Nat.le_refl _, Nat.le_refl _⟩ (show J w (d + 7) m_X_far (n0, z0, some (.int z.1), mk c z.2) 52 [some (.ref 33), some (.int x1), some (.int x2), some (.int x3), none] [] (mk c S17) from ?_)
        refine J.run b_X_far_52_3 k_X_far_52_3 rfl (And.intro (okO_st (S := S17) rfl) (show J w (d + 7) m_X_far (n0, z0, some (.int z.1), mk c z.2) 57 [some (.ref 33), some (.int x1), some (.int x2), some (.int x3), none] [.int x1, .ref 138] (mk c S17) from ?_))
        obtain ⟨r19, S20, h21, H⟩ := bd_e H
        refine J.callV (y := m_W_leftFrom) (av := [.int x1]) (rest := []) (q := 138) l_X_167 d_X_far_57 (isC_st rfl rfl) (c_W_leftFrom w (d + 5) c  S17 x1 h21) rfl (Nat.le_of_ble_eq_true rfl) ⟨Nat.le_refl _, Nat.le_refl _⟩ (show J w (d + 7) m_X_far (n0, z0, some (.int z.1), mk c z.2) 60 [some (.ref 33), some (.int x1), some (.int x2), some (.int x3), none] [.int r19] (mk c S20) from ?_)
        refine J.run b_X_far_60_3 k_X_far_60_3 rfl (show J w (d + 7) m_X_far (n0, z0, some (.int z.1), mk c z.2) 66 [some (.ref 33), some (.int x1), some (.int x2), some (.int x3), some (.int r19)] [.int (1000000 : Int32), .int r19] (mk c S20) from ?_)
        refine J.cne (tgt := 74) d_X_far_66 rfl (fun q22 => ?_) (fun q22 => ?_)
        · have H := ite_f H q22
          refine J.run b_X_far_74_1 k_X_far_74_1 rfl (show J w (d + 7) m_X_far (n0, z0, some (.int z.1), mk c z.2) 76 [some (.ref 33), some (.int x1), some (.int x2), some (.int x3), some (.int r19)] [.int r19] (mk c S20) from ?_)
          obtain rfl := some_e H
          exact J.iret d_X_far_76 rfl rfl
        · have H := ite_t H q22
          refine J.run b_X_far_69_1 k_X_far_69_1 rfl (show J w (d + 7) m_X_far (n0, z0, some (.int z.1), mk c z.2) 71 [some (.ref 33), some (.int x1), some (.int x2), some (.int x3), some (.int r19)] [.int (-3 : Int32)] (mk c S20) from ?_)
          refine J.goto (tgt := 76) d_X_far_71 rfl ?_
          obtain rfl := some_e H
          exact J.iret d_X_far_76 rfl rfl
      · have H := ite_t H q12
        refine J.run b_X_far_29_1 k_X_far_29_1 rfl (show J w (d + 7) m_X_far (n0, z0, some (.int z.1), mk c z.2) 30 [some (.ref 33), some (.int x1), some (.int x2), some (.int x3), none] [.int (-1 : Int32)] (mk c S10) from ?_)
        obtain rfl := some_e H
        exact J.iret d_X_far_30 rfl rfl
def b_X_first_0_3 : List Ins := [(.aload_n 0, 0, 0, 0), (.getfield 10, 0, 0, 2), (.iload_n 1, 0, 0, 0)]
theorem k_X_first_0_3 : bok m_X_first 0 b_X_first_0_3 = true := by decide +kernel
def b_X_first_29_1 : List Ins := [(.iconst (-1), 0, 0, 0)]
theorem k_X_first_29_1 : bok m_X_first 29 b_X_first_29_1 = true := by decide +kernel
def b_X_first_11_3 : List Ins := [(.aload_n 0, 0, 0, 0), (.getfield 10, 0, 0, 2), (.iload_n 2, 0, 0, 0)]
theorem k_X_first_11_3 : bok m_X_first 11 b_X_first_11_3 = true := by decide +kernel
def b_X_first_22_1 : List Ins := [(.iload_n 3, 0, 0, 0)]
theorem k_X_first_22_1 : bok m_X_first 22 b_X_first_22_1 = true := by decide +kernel
def b_X_first_31_6 : List Ins := [(.aload_n 0, 0, 0, 0), (.getfield 29, 0, 3, 2), (.aload_n 0, 0, 0, 0), (.getfield 10, 0, 0, 2), (.iload_n 3, 0, 0, 0), (.iconst (-1), 0, 0, 0)]
theorem k_X_first_31_6 : bok m_X_first 31 b_X_first_31_6 = true := by decide +kernel
def b_X_first_44_3 : List Ins := [(.aload_n 0, 0, 0, 0), (.getfield 29, 0, 3, 2), (.iload_n 2, 0, 0, 0)]
theorem k_X_first_44_3 : bok m_X_first 44 b_X_first_44_3 = true := by decide +kernel
def b_X_first_52_3 : List Ins := [(.aload_n 0, 0, 0, 0), (.getfield 29, 0, 3, 2), (.iload_n 1, 0, 0, 0)]
theorem k_X_first_52_3 : bok m_X_first 52 b_X_first_52_3 = true := by decide +kernel
theorem d_X_first_5 : decode m_X_first.2.1 5 = .ok (.invokevirtual 156, 3) := by decide +kernel
theorem d_X_first_8 : decode m_X_first.2.1 8 = .ok (.ifCond .eq (21), 3) := by decide +kernel
theorem d_X_first_30 : decode m_X_first.2.1 30 = .ok (.ireturn, 1) := by decide +kernel
theorem d_X_first_16 : decode m_X_first.2.1 16 = .ok (.invokevirtual 68, 3) := by decide +kernel
theorem d_X_first_19 : decode m_X_first.2.1 19 = .ok (.ifCond .eq (10), 3) := by decide +kernel
theorem d_X_first_23 : decode m_X_first.2.1 23 = .ok (.invokestatic 131, 3) := by decide +kernel
theorem d_X_first_26 : decode m_X_first.2.1 26 = .ok (.ifCond .ne (5), 3) := by decide +kernel
theorem d_X_first_41 : decode m_X_first.2.1 41 = .ok (.invokevirtual 159, 3) := by decide +kernel
theorem d_X_first_49 : decode m_X_first.2.1 49 = .ok (.invokevirtual 163, 3) := by decide +kernel
theorem d_X_first_57 : decode m_X_first.2.1 57 = .ok (.invokevirtual 171, 3) := by decide +kernel
theorem d_X_first_60 : decode m_X_first.2.1 60 = .ok (.ireturn, 1) := by decide +kernel
def f_X_first  (S : hs) (x1 : Int32) (x2 : Int32) (x3 : Int32) : Option (Int32 × hs) := bd (f_T_hasCourse  S x1) fun r1 S2 => (if r1 = 0 then some ((-1 : Int32), S2) else bd (f_T_hasCrossing  S2 x2) fun r5 S6 => (if r5 = 0 then some ((-1 : Int32), S6) else bd (f_X_isWidth  S6 x3) fun r9 S10 => (if r9 = 0 then some ((-1 : Int32), S10) else bd (f_W_prepare_34  S10 x3 (-1 : Int32)) fun r13 S14 => bd (f_W_measureTo  S14 x2) fun r16 S17 => bd (f_W_firstFrom  S17 x1) fun r19 S20 => some (r19, S20))))
theorem c_X_first (w : Wd) (d : Nat) (c : cx)   (S : hs) (x1 : Int32) (x2 : Int32) (x3 : Int32)  {z : Int32 × hs} (H : f_X_first S x1 x2 x3 = some z) : Cl w (d + 7) m_X_first [.ref 33, .int x1, .int x2, .int x3] (mk c S) (some (.int z.1)) (mk c z.2) := by
  refine Cl.of (Nat.le_refl _) (Nat.le_refl _) (by decide +kernel) (Nat.le_of_ble_eq_true rfl) ?_
  unfold f_X_first at H
  generalize hN (mk c S) = n0
  generalize hZ (mk c S) = z0
  show J w (d + 7) m_X_first (n0, z0, some (.int z.1), mk c z.2) 0 [some (.ref 33), some (.int x1), some (.int x2), some (.int x3)] [] (mk c S)
  refine J.run b_X_first_0_3 k_X_first_0_3 rfl (And.intro (okO_st (S := S) rfl) (show J w (d + 7) m_X_first (n0, z0, some (.int z.1), mk c z.2) 5 [some (.ref 33), some (.int x1), some (.int x2), some (.int x3)] [.int x1, .ref 34] (mk c S) from ?_))
  obtain ⟨r1, S2, h3, H⟩ := bd_e H
  refine J.callV (y := m_T_hasCourse) (av := [.int x1]) (rest := []) (q := 34) l_X_156 d_X_first_5 (isC_st rfl rfl) (c_T_hasCourse w (d + 3) c  S x1 h3) rfl (Nat.le_of_ble_eq_true rfl) ⟨Nat.le_refl _, Nat.le_refl _⟩ (show J w (d + 7) m_X_first (n0, z0, some (.int z.1), mk c z.2) 8 [some (.ref 33), some (.int x1), some (.int x2), some (.int x3)] [.int r1] (mk c S2) from ?_)
  refine J.zeq (tgt := 29) d_X_first_8 rfl (fun q4 => ?_) (fun q4 => ?_)
  · have H := ite_t H q4
    refine J.run b_X_first_29_1 k_X_first_29_1 rfl (show J w (d + 7) m_X_first (n0, z0, some (.int z.1), mk c z.2) 30 [some (.ref 33), some (.int x1), some (.int x2), some (.int x3)] [.int (-1 : Int32)] (mk c S2) from ?_)
    obtain rfl := some_e H
    exact J.iret d_X_first_30 rfl rfl
  · have H := ite_f H q4
    refine J.run b_X_first_11_3 k_X_first_11_3 rfl (And.intro (okO_st (S := S2) rfl) (show J w (d + 7) m_X_first (n0, z0, some (.int z.1), mk c z.2) 16 [some (.ref 33), some (.int x1), some (.int x2), some (.int x3)] [.int x2, .ref 34] (mk c S2) from ?_))
    obtain ⟨r5, S6, h7, H⟩ := bd_e H
    refine J.callV (y := m_T_hasCrossing) (av := [.int x2]) (rest := []) (q := 34) l_X_68 d_X_first_16 (isC_st rfl rfl) (c_T_hasCrossing w (d + 5) c  S2 x2 h7) rfl (Nat.le_of_ble_eq_true rfl) ⟨Nat.le_refl _, Nat.le_refl _⟩ (show J w (d + 7) m_X_first (n0, z0, some (.int z.1), mk c z.2) 19 [some (.ref 33), some (.int x1), some (.int x2), some (.int x3)] [.int r5] (mk c S6) from ?_)
    refine J.zeq (tgt := 29) d_X_first_19 rfl (fun q8 => ?_) (fun q8 => ?_)
    · have H := ite_t H q8
      refine J.run b_X_first_29_1 k_X_first_29_1 rfl (show J w (d + 7) m_X_first (n0, z0, some (.int z.1), mk c z.2) 30 [some (.ref 33), some (.int x1), some (.int x2), some (.int x3)] [.int (-1 : Int32)] (mk c S6) from ?_)
      obtain rfl := some_e H
      exact J.iret d_X_first_30 rfl rfl
    · have H := ite_f H q8
      refine J.run b_X_first_22_1 k_X_first_22_1 rfl (show J w (d + 7) m_X_first (n0, z0, some (.int z.1), mk c z.2) 23 [some (.ref 33), some (.int x1), some (.int x2), some (.int x3)] [.int x3] (mk c S6) from ?_)
      obtain ⟨r9, S10, h11, H⟩ := bd_e H
      refine J.callS (y := m_X_isWidth) (av := [.int x3]) (rest := []) l_X_131 d_X_first_23 (c_X_isWidth w (d + 5) c  S6 x3 h11) rfl (Nat.le_of_ble_eq_true rfl) ⟨Nat.le_refl _, Nat.le_refl _⟩ (show J w (d + 7) m_X_first (n0, z0, some (.int z.1), mk c z.2) 26 [some (.ref 33), some (.int x1), some (.int x2), some (.int x3)] [.int r9] (mk c S10) from ?_)
      refine J.zne (tgt := 31) d_X_first_26 rfl (fun q12 => ?_) (fun q12 => ?_)
      · have H := ite_f H q12
        refine J.run b_X_first_31_6 k_X_first_31_6 rfl (And.intro (okO_st (S := S10) rfl) (And.intro (okO_st (S := S10) rfl) (show J w (d + 7) m_X_first (n0, z0, some (.int z.1), mk c z.2) 41 [some (.ref 33), some (.int x1), some (.int x2), some (.int x3)] [.int (-1 : Int32), .int x3, .ref 34, .ref 138] (mk c S10) from ?_)))
        obtain ⟨r13, S14, h15, H⟩ := bd_e H
        refine J.callV (y := m_W_prepare) (av := [.ref 34, .int x3, .int (-1 : Int32)]) (rest := []) (q := 138) l_X_159 d_X_first_41 (isC_st rfl rfl) (c_W_prepare_34 w (d + 0) c  S10 x3 (-1 : Int32) h15) rfl (Nat.le_of_ble_eq_true rfl) ⟨Nat.le_refl _, Nat.le_refl _⟩ (show J w (d + 7) m_X_first (n0, z0, some (.int z.1), mk c z.2) 44 [some (.ref 33), some (.int x1), some (.int x2), some (.int x3)] [] (mk c S14) from ?_)
        refine J.run b_X_first_44_3 k_X_first_44_3 rfl (And.intro (okO_st (S := S14) rfl) (show J w (d + 7) m_X_first (n0, z0, some (.int z.1), mk c z.2) 49 [some (.ref 33), some (.int x1), some (.int x2), some (.int x3)] [.int x2, .ref 138] (mk c S14) from ?_))
        obtain ⟨r16, S17, h18, H⟩ := bd_e H
        refine J.callV (y := m_W_measureTo) (av := [.int x2]) (rest := []) (q := 138) l_X_163 d_X_first_49 (isC_st rfl rfl) (c_W_measureTo w (d + 2) c  S14 x2 h18) rfl (Nat.le_of_ble_eq_true rfl) ⟨Nat.le_refl _, Nat.le_refl _⟩ (show J w (d + 7) m_X_first (n0, z0, some (.int z.1), mk c z.2) 52 [some (.ref 33), some (.int x1), some (.int x2), some (.int x3)] [] (mk c S17) from ?_)
        refine J.run b_X_first_52_3 k_X_first_52_3 rfl (And.intro (okO_st (S := S17) rfl) (show J w (d + 7) m_X_first (n0, z0, some (.int z.1), mk c z.2) 57 [some (.ref 33), some (.int x1), some (.int x2), some (.int x3)] [.int x1, .ref 138] (mk c S17) from ?_))
        obtain ⟨r19, S20, h21, H⟩ := bd_e H
        refine J.callV (y := m_W_firstFrom) (av := [.int x1]) (rest := []) (q := 138) l_X_171 d_X_first_57 (isC_st rfl rfl) (c_W_firstFrom w (d + 4) c  S17 x1 h21) rfl (Nat.le_of_ble_eq_true rfl) ⟨Nat.le_refl _, Nat.le_refl _⟩ (show J w (d + 7) m_X_first (n0, z0, some (.int z.1), mk c z.2) 60 [some (.ref 33), some (.int x1), some (.int x2), some (.int x3)] [.int r19] (mk c S20) from ?_)
        obtain rfl := some_e H
        exact J.iret d_X_first_60 rfl rfl
      · have H := ite_t H q12
        refine J.run b_X_first_29_1 k_X_first_29_1 rfl (show J w (d + 7) m_X_first (n0, z0, some (.int z.1), mk c z.2) 30 [some (.ref 33), some (.int x1), some (.int x2), some (.int x3)] [.int (-1 : Int32)] (mk c S10) from ?_)
        obtain rfl := some_e H
        exact J.iret d_X_first_30 rfl rfl
def b_X_free_0_3 : List Ins := [(.aload_n 0, 0, 0, 0), (.getfield 10, 0, 0, 2), (.iload_n 1, 0, 0, 0)]
theorem k_X_free_0_3 : bok m_X_free 0 b_X_free_0_3 = true := by decide +kernel
def b_X_free_22_1 : List Ins := [(.iconst (-1), 0, 0, 0)]
theorem k_X_free_22_1 : bok m_X_free 22 b_X_free_22_1 = true := by decide +kernel
def b_X_free_11_3 : List Ins := [(.aload_n 0, 0, 0, 0), (.getfield 10, 0, 0, 2), (.iload_n 2, 0, 0, 0)]
theorem k_X_free_11_3 : bok m_X_free 11 b_X_free_11_3 = true := by decide +kernel
def b_X_free_24_4 : List Ins := [(.aload_n 0, 0, 0, 0), (.getfield 29, 0, 3, 2), (.aload_n 0, 0, 0, 0), (.getfield 10, 0, 0, 2)]
theorem k_X_free_24_4 : bok m_X_free 24 b_X_free_24_4 = true := by decide +kernel
def b_X_free_35_2 : List Ins := [(.aload_n 0, 0, 0, 0), (.getfield 29, 0, 3, 2)]
theorem k_X_free_35_2 : bok m_X_free 35 b_X_free_35_2 = true := by decide +kernel
def b_X_free_42_10 : List Ins := [(.aload_n 0, 0, 0, 0), (.getfield 29, 0, 3, 2), (.getfield 181, 4, 7, 2), (.iload_n 1, 0, 0, 0), (.aaload, 0, 0, 0), (.iload_n 2, 0, 0, 0), (.iaload, 0, 0, 0), (.istore_n 3, 0, 0, 0), (.iload_n 3, 0, 0, 0), (.ldc 170, 0, 1000000, 0)]
theorem k_X_free_42_10 : bok m_X_free 42 b_X_free_42_10 = true := by decide +kernel
def b_X_free_65_1 : List Ins := [(.iload_n 3, 0, 0, 0)]
theorem k_X_free_65_1 : bok m_X_free 65 b_X_free_65_1 = true := by decide +kernel
def b_X_free_60_1 : List Ins := [(.bipush (-3), 0, 0, 0)]
theorem k_X_free_60_1 : bok m_X_free 60 b_X_free_60_1 = true := by decide +kernel
theorem d_X_free_5 : decode m_X_free.2.1 5 = .ok (.invokevirtual 68, 3) := by decide +kernel
theorem d_X_free_8 : decode m_X_free.2.1 8 = .ok (.ifCond .eq (14), 3) := by decide +kernel
theorem d_X_free_23 : decode m_X_free.2.1 23 = .ok (.ireturn, 1) := by decide +kernel
theorem d_X_free_16 : decode m_X_free.2.1 16 = .ok (.invokevirtual 68, 3) := by decide +kernel
theorem d_X_free_19 : decode m_X_free.2.1 19 = .ok (.ifCond .ne (5), 3) := by decide +kernel
theorem d_X_free_32 : decode m_X_free.2.1 32 = .ok (.invokevirtual 174, 3) := by decide +kernel
theorem d_X_free_39 : decode m_X_free.2.1 39 = .ok (.invokevirtual 178, 3) := by decide +kernel
theorem d_X_free_57 : decode m_X_free.2.1 57 = .ok (.if_icmp .ne (8), 3) := by decide +kernel
theorem d_X_free_66 : decode m_X_free.2.1 66 = .ok (.ireturn, 1) := by decide +kernel
theorem d_X_free_62 : decode m_X_free.2.1 62 = .ok (.goto (4), 3) := by decide +kernel
def f_X_free  (S : hs) (x1 : Int32) (x2 : Int32) : Option (Int32 × hs) := bd (f_T_hasCrossing  S x1) fun r1 S2 => (if r1 = 0 then some ((-1 : Int32), S2) else bd (f_T_hasCrossing  S2 x2) fun r5 S6 => (if r5 = 0 then some ((-1 : Int32), S6) else bd (f_W_look_34  S6) fun r9 S10 => bd (f_W_measureFreely  S10) fun r12 S13 => ck (inb x1 12) (ck (inb x2 12) ((if (gI S13 (147 + (x1).toNatClampNeg) (x2).toNatClampNeg) = (1000000 : Int32) then some ((-3 : Int32), S13) else some ((gI S13 (147 + (x1).toNatClampNeg) (x2).toNatClampNeg), S13))))))
theorem c_X_free (w : Wd) (d : Nat) (c : cx)   (S : hs) (x1 : Int32) (x2 : Int32)  {z : Int32 × hs} (H : f_X_free S x1 x2 = some z) : Cl w (d + 5) m_X_free [.ref 33, .int x1, .int x2] (mk c S) (some (.int z.1)) (mk c z.2) := by
  refine Cl.of (Nat.le_refl _) (Nat.le_refl _) (by decide +kernel) (Nat.le_of_ble_eq_true rfl) ?_
  unfold f_X_free at H
  generalize hN (mk c S) = n0
  generalize hZ (mk c S) = z0
  show J w (d + 5) m_X_free (n0, z0, some (.int z.1), mk c z.2) 0 [some (.ref 33), some (.int x1), some (.int x2), none] [] (mk c S)
  refine J.run b_X_free_0_3 k_X_free_0_3 rfl (And.intro (okO_st (S := S) rfl) (show J w (d + 5) m_X_free (n0, z0, some (.int z.1), mk c z.2) 5 [some (.ref 33), some (.int x1), some (.int x2), none] [.int x1, .ref 34] (mk c S) from ?_))
  obtain ⟨r1, S2, h3, H⟩ := bd_e H
  refine J.callV (y := m_T_hasCrossing) (av := [.int x1]) (rest := []) (q := 34) l_X_68 d_X_free_5 (isC_st rfl rfl) (c_T_hasCrossing w (d + 3) c  S x1 h3) rfl (Nat.le_of_ble_eq_true rfl) ⟨Nat.le_refl _, Nat.le_refl _⟩ (show J w (d + 5) m_X_free (n0, z0, some (.int z.1), mk c z.2) 8 [some (.ref 33), some (.int x1), some (.int x2), none] [.int r1] (mk c S2) from ?_)
  refine J.zeq (tgt := 22) d_X_free_8 rfl (fun q4 => ?_) (fun q4 => ?_)
  · have H := ite_t H q4
    refine J.run b_X_free_22_1 k_X_free_22_1 rfl (show J w (d + 5) m_X_free (n0, z0, some (.int z.1), mk c z.2) 23 [some (.ref 33), some (.int x1), some (.int x2), none] [.int (-1 : Int32)] (mk c S2) from ?_)
    obtain rfl := some_e H
    exact J.iret d_X_free_23 rfl rfl
  · have H := ite_f H q4
    refine J.run b_X_free_11_3 k_X_free_11_3 rfl (And.intro (okO_st (S := S2) rfl) (show J w (d + 5) m_X_free (n0, z0, some (.int z.1), mk c z.2) 16 [some (.ref 33), some (.int x1), some (.int x2), none] [.int x2, .ref 34] (mk c S2) from ?_))
    obtain ⟨r5, S6, h7, H⟩ := bd_e H
    refine J.callV (y := m_T_hasCrossing) (av := [.int x2]) (rest := []) (q := 34) l_X_68 d_X_free_16 (isC_st rfl rfl) (c_T_hasCrossing w (d + 3) c  S2 x2 h7) rfl (Nat.le_of_ble_eq_true rfl) ⟨Nat.le_refl _, Nat.le_refl _⟩ (show J w (d + 5) m_X_free (n0, z0, some (.int z.1), mk c z.2) 19 [some (.ref 33), some (.int x1), some (.int x2), none] [.int r5] (mk c S6) from ?_)
    refine J.zne (tgt := 24) d_X_free_19 rfl (fun q8 => ?_) (fun q8 => ?_)
    · have H := ite_f H q8
      refine J.run b_X_free_24_4 k_X_free_24_4 rfl (And.intro (okO_st (S := S6) rfl) (And.intro (okO_st (S := S6) rfl) (show J w (d + 5) m_X_free (n0, z0, some (.int z.1), mk c z.2) 32 [some (.ref 33), some (.int x1), some (.int x2), none] [.ref 34, .ref 138] (mk c S6) from ?_)))
      obtain ⟨r9, S10, h11, H⟩ := bd_e H
      refine J.callV (y := m_W_look) (av := [.ref 34]) (rest := []) (q := 138) l_X_174 d_X_free_32 (isC_st rfl rfl) (c_W_look_34 w (d + 0) c  S6 h11) rfl (Nat.le_of_ble_eq_true rfl) ⟨Nat.le_refl _, Nat.le_refl _⟩ (show J w (d + 5) m_X_free (n0, z0, some (.int z.1), mk c z.2) 35 [some (.ref 33), some (.int x1), some (.int x2), none] [] (mk c S10) from ?_)
      refine J.run b_X_free_35_2 k_X_free_35_2 rfl (And.intro (okO_st (S := S10) rfl) (show J w (d + 5) m_X_free (n0, z0, some (.int z.1), mk c z.2) 39 [some (.ref 33), some (.int x1), some (.int x2), none] [.ref 138] (mk c S10) from ?_))
      obtain ⟨r12, S13, h14, H⟩ := bd_e H
      refine J.callV (y := m_W_measureFreely) (av := []) (rest := []) (q := 138) l_X_178 d_X_free_39 (isC_st rfl rfl) (c_W_measureFreely w (d + 1) c  S10 h14) rfl (Nat.le_of_ble_eq_true rfl) ⟨Nat.le_refl _, Nat.le_refl _⟩ (show J w (d + 5) m_X_free (n0, z0, some (.int z.1), mk c z.2) 42 [some (.ref 33), some (.int x1), some (.int x2), none] [] (mk c S13) from ?_)
      obtain ⟨g15, H⟩ := ck_e H
      obtain ⟨g16, H⟩ := ck_e H
      refine J.run b_X_free_42_10 k_X_free_42_10 rfl (And.intro (okO_st (S := S13) rfl) (And.intro (okO_st (S := S13) rfl) (And.intro (okQ_st (S := S13) (k := 23) (n := 12) rfl rfl g15) (And.intro (okA_row (S := S13) (b := 147) (cnt := 12) (n := 12) rfl (inb_lt g15) g16) (show J w (d + 5) m_X_free (n0, z0, some (.int z.1), mk c z.2) 57 [some (.ref 33), some (.int x1), some (.int x2), some (.int (gI S13 (147 + (x1).toNatClampNeg) (x2).toNatClampNeg))] [.int (1000000 : Int32), .int (gI S13 (147 + (x1).toNatClampNeg) (x2).toNatClampNeg)] (mk c S13) from ?_)))))
      refine J.cne (tgt := 65) d_X_free_57 rfl (fun q17 => ?_) (fun q17 => ?_)
      · have H := ite_f H q17
        refine J.run b_X_free_65_1 k_X_free_65_1 rfl (show J w (d + 5) m_X_free (n0, z0, some (.int z.1), mk c z.2) 66 [some (.ref 33), some (.int x1), some (.int x2), some (.int (gI S13 (147 + (x1).toNatClampNeg) (x2).toNatClampNeg))] [.int (gI S13 (147 + (x1).toNatClampNeg) (x2).toNatClampNeg)] (mk c S13) from ?_)
        obtain rfl := some_e H
        exact J.iret d_X_free_66 rfl rfl
      · have H := ite_t H q17
        refine J.run b_X_free_60_1 k_X_free_60_1 rfl (show J w (d + 5) m_X_free (n0, z0, some (.int z.1), mk c z.2) 62 [some (.ref 33), some (.int x1), some (.int x2), some (.int (gI S13 (147 + (x1).toNatClampNeg) (x2).toNatClampNeg))] [.int (-3 : Int32)] (mk c S13) from ?_)
        refine J.goto (tgt := 66) d_X_free_62 rfl ?_
        obtain rfl := some_e H
        exact J.iret d_X_free_66 rfl rfl
    · have H := ite_t H q8
      refine J.run b_X_free_22_1 k_X_free_22_1 rfl (show J w (d + 5) m_X_free (n0, z0, some (.int z.1), mk c z.2) 23 [some (.ref 33), some (.int x1), some (.int x2), none] [.int (-1 : Int32)] (mk c S6) from ?_)
      obtain rfl := some_e H
      exact J.iret d_X_free_23 rfl rfl
def b_X_reach_0_3 : List Ins := [(.aload_n 0, 0, 0, 0), (.getfield 10, 0, 0, 2), (.iload_n 1, 0, 0, 0)]
theorem k_X_reach_0_3 : bok m_X_reach 0 b_X_reach_0_3 = true := by decide +kernel
def b_X_reach_18_1 : List Ins := [(.iconst (-1), 0, 0, 0)]
theorem k_X_reach_18_1 : bok m_X_reach 18 b_X_reach_18_1 = true := by decide +kernel
def b_X_reach_11_1 : List Ins := [(.iload_n 2, 0, 0, 0)]
theorem k_X_reach_11_1 : bok m_X_reach 11 b_X_reach_11_1 = true := by decide +kernel
def b_X_reach_20_6 : List Ins := [(.aload_n 0, 0, 0, 0), (.getfield 29, 0, 3, 2), (.aload_n 0, 0, 0, 0), (.getfield 10, 0, 0, 2), (.iload_n 2, 0, 0, 0), (.iconst (-1), 0, 0, 0)]
theorem k_X_reach_20_6 : bok m_X_reach 20 b_X_reach_20_6 = true := by decide +kernel
def b_X_reach_33_3 : List Ins := [(.aload_n 0, 0, 0, 0), (.getfield 29, 0, 3, 2), (.iload_n 1, 0, 0, 0)]
theorem k_X_reach_33_3 : bok m_X_reach 33 b_X_reach_33_3 = true := by decide +kernel
theorem d_X_reach_5 : decode m_X_reach.2.1 5 = .ok (.invokevirtual 156, 3) := by decide +kernel
theorem d_X_reach_8 : decode m_X_reach.2.1 8 = .ok (.ifCond .eq (10), 3) := by decide +kernel
theorem d_X_reach_19 : decode m_X_reach.2.1 19 = .ok (.ireturn, 1) := by decide +kernel
theorem d_X_reach_12 : decode m_X_reach.2.1 12 = .ok (.invokestatic 131, 3) := by decide +kernel
theorem d_X_reach_15 : decode m_X_reach.2.1 15 = .ok (.ifCond .ne (5), 3) := by decide +kernel
theorem d_X_reach_30 : decode m_X_reach.2.1 30 = .ok (.invokevirtual 159, 3) := by decide +kernel
theorem d_X_reach_38 : decode m_X_reach.2.1 38 = .ok (.invokevirtual 184, 3) := by decide +kernel
theorem d_X_reach_41 : decode m_X_reach.2.1 41 = .ok (.ireturn, 1) := by decide +kernel
def f_X_reach  (S : hs) (x1 : Int32) (x2 : Int32) : Option (Int32 × hs) := bd (f_T_hasCourse  S x1) fun r1 S2 => (if r1 = 0 then some ((-1 : Int32), S2) else bd (f_X_isWidth  S2 x2) fun r5 S6 => (if r5 = 0 then some ((-1 : Int32), S6) else bd (f_W_prepare_34  S6 x2 (-1 : Int32)) fun r9 S10 => bd (f_W_crossingsFrom  S10 x1) fun r12 S13 => some (r12, S13)))
theorem c_X_reach (w : Wd) (d : Nat) (c : cx)   (S : hs) (x1 : Int32) (x2 : Int32)  {z : Int32 × hs} (H : f_X_reach S x1 x2 = some z) : Cl w (d + 7) m_X_reach [.ref 33, .int x1, .int x2] (mk c S) (some (.int z.1)) (mk c z.2) := by
  refine Cl.of (Nat.le_refl _) (Nat.le_refl _) (by decide +kernel) (Nat.le_of_ble_eq_true rfl) ?_
  unfold f_X_reach at H
  generalize hN (mk c S) = n0
  generalize hZ (mk c S) = z0
  show J w (d + 7) m_X_reach (n0, z0, some (.int z.1), mk c z.2) 0 [some (.ref 33), some (.int x1), some (.int x2)] [] (mk c S)
  refine J.run b_X_reach_0_3 k_X_reach_0_3 rfl (And.intro (okO_st (S := S) rfl) (show J w (d + 7) m_X_reach (n0, z0, some (.int z.1), mk c z.2) 5 [some (.ref 33), some (.int x1), some (.int x2)] [.int x1, .ref 34] (mk c S) from ?_))
  obtain ⟨r1, S2, h3, H⟩ := bd_e H
  refine J.callV (y := m_T_hasCourse) (av := [.int x1]) (rest := []) (q := 34) l_X_156 d_X_reach_5 (isC_st rfl rfl) (c_T_hasCourse w (d + 3) c  S x1 h3) rfl (Nat.le_of_ble_eq_true rfl) ⟨Nat.le_refl _, Nat.le_refl _⟩ (show J w (d + 7) m_X_reach (n0, z0, some (.int z.1), mk c z.2) 8 [some (.ref 33), some (.int x1), some (.int x2)] [.int r1] (mk c S2) from ?_)
  refine J.zeq (tgt := 18) d_X_reach_8 rfl (fun q4 => ?_) (fun q4 => ?_)
  · have H := ite_t H q4
    refine J.run b_X_reach_18_1 k_X_reach_18_1 rfl (show J w (d + 7) m_X_reach (n0, z0, some (.int z.1), mk c z.2) 19 [some (.ref 33), some (.int x1), some (.int x2)] [.int (-1 : Int32)] (mk c S2) from ?_)
    obtain rfl := some_e H
    exact J.iret d_X_reach_19 rfl rfl
  · have H := ite_f H q4
    refine J.run b_X_reach_11_1 k_X_reach_11_1 rfl (show J w (d + 7) m_X_reach (n0, z0, some (.int z.1), mk c z.2) 12 [some (.ref 33), some (.int x1), some (.int x2)] [.int x2] (mk c S2) from ?_)
    obtain ⟨r5, S6, h7, H⟩ := bd_e H
    refine J.callS (y := m_X_isWidth) (av := [.int x2]) (rest := []) l_X_131 d_X_reach_12 (c_X_isWidth w (d + 5) c  S2 x2 h7) rfl (Nat.le_of_ble_eq_true rfl) ⟨Nat.le_refl _, Nat.le_refl _⟩ (show J w (d + 7) m_X_reach (n0, z0, some (.int z.1), mk c z.2) 15 [some (.ref 33), some (.int x1), some (.int x2)] [.int r5] (mk c S6) from ?_)
    refine J.zne (tgt := 20) d_X_reach_15 rfl (fun q8 => ?_) (fun q8 => ?_)
    · have H := ite_f H q8
      refine J.run b_X_reach_20_6 k_X_reach_20_6 rfl (And.intro (okO_st (S := S6) rfl) (And.intro (okO_st (S := S6) rfl) (show J w (d + 7) m_X_reach (n0, z0, some (.int z.1), mk c z.2) 30 [some (.ref 33), some (.int x1), some (.int x2)] [.int (-1 : Int32), .int x2, .ref 34, .ref 138] (mk c S6) from ?_)))
      obtain ⟨r9, S10, h11, H⟩ := bd_e H
      refine J.callV (y := m_W_prepare) (av := [.ref 34, .int x2, .int (-1 : Int32)]) (rest := []) (q := 138) l_X_159 d_X_reach_30 (isC_st rfl rfl) (c_W_prepare_34 w (d + 0) c  S6 x2 (-1 : Int32) h11) rfl (Nat.le_of_ble_eq_true rfl) ⟨Nat.le_refl _, Nat.le_refl _⟩ (show J w (d + 7) m_X_reach (n0, z0, some (.int z.1), mk c z.2) 33 [some (.ref 33), some (.int x1), some (.int x2)] [] (mk c S10) from ?_)
      refine J.run b_X_reach_33_3 k_X_reach_33_3 rfl (And.intro (okO_st (S := S10) rfl) (show J w (d + 7) m_X_reach (n0, z0, some (.int z.1), mk c z.2) 38 [some (.ref 33), some (.int x1), some (.int x2)] [.int x1, .ref 138] (mk c S10) from ?_))
      obtain ⟨r12, S13, h14, H⟩ := bd_e H
      refine J.callV (y := m_W_crossingsFrom) (av := [.int x1]) (rest := []) (q := 138) l_X_184 d_X_reach_38 (isC_st rfl rfl) (c_W_crossingsFrom w (d + 2) c  S10 x1 h14) rfl (Nat.le_of_ble_eq_true rfl) ⟨Nat.le_refl _, Nat.le_refl _⟩ (show J w (d + 7) m_X_reach (n0, z0, some (.int z.1), mk c z.2) 41 [some (.ref 33), some (.int x1), some (.int x2)] [.int r12] (mk c S13) from ?_)
      obtain rfl := some_e H
      exact J.iret d_X_reach_41 rfl rfl
    · have H := ite_t H q8
      refine J.run b_X_reach_18_1 k_X_reach_18_1 rfl (show J w (d + 7) m_X_reach (n0, z0, some (.int z.1), mk c z.2) 19 [some (.ref 33), some (.int x1), some (.int x2)] [.int (-1 : Int32)] (mk c S6) from ?_)
      obtain rfl := some_e H
      exact J.iret d_X_reach_19 rfl rfl
def b_X_pairs_0_1 : List Ins := [(.iload_n 1, 0, 0, 0)]
theorem k_X_pairs_0_1 : bok m_X_pairs 0 b_X_pairs_0_1 = true := by decide +kernel
def b_X_pairs_9_6 : List Ins := [(.aload_n 0, 0, 0, 0), (.getfield 29, 0, 3, 2), (.aload_n 0, 0, 0, 0), (.getfield 10, 0, 0, 2), (.iload_n 1, 0, 0, 0), (.iconst (-1), 0, 0, 0)]
theorem k_X_pairs_9_6 : bok m_X_pairs 9 b_X_pairs_9_6 = true := by decide +kernel
def b_X_pairs_22_5 : List Ins := [(.aload_n 0, 0, 0, 0), (.getfield 29, 0, 3, 2), (.aload_n 0, 0, 0, 0), (.getfield 29, 0, 3, 2), (.getfield 187, 4, 8, 1)]
theorem k_X_pairs_22_5 : bok m_X_pairs 22 b_X_pairs_22_5 = true := by decide +kernel
def b_X_pairs_7_1 : List Ins := [(.iconst (-1), 0, 0, 0)]
theorem k_X_pairs_7_1 : bok m_X_pairs 7 b_X_pairs_7_1 = true := by decide +kernel
theorem d_X_pairs_1 : decode m_X_pairs.2.1 1 = .ok (.invokestatic 131, 3) := by decide +kernel
theorem d_X_pairs_4 : decode m_X_pairs.2.1 4 = .ok (.ifCond .ne (5), 3) := by decide +kernel
theorem d_X_pairs_19 : decode m_X_pairs.2.1 19 = .ok (.invokevirtual 159, 3) := by decide +kernel
theorem d_X_pairs_33 : decode m_X_pairs.2.1 33 = .ok (.invokevirtual 191, 3) := by decide +kernel
theorem d_X_pairs_36 : decode m_X_pairs.2.1 36 = .ok (.ireturn, 1) := by decide +kernel
theorem d_X_pairs_8 : decode m_X_pairs.2.1 8 = .ok (.ireturn, 1) := by decide +kernel
def f_X_pairs  (S : hs) (x1 : Int32) : Option (Int32 × hs) := bd (f_X_isWidth  S x1) fun r1 S2 => (if r1 = 0 then some ((-1 : Int32), S2) else bd (f_W_prepare_34  S2 x1 (-1 : Int32)) fun r5 S6 => bd (f_W_countPairs  S6 (gJ S6 138 8)) fun r8 S9 => some (r8, S9))
theorem c_X_pairs (w : Wd) (d : Nat) (c : cx)   (S : hs) (x1 : Int32)  {z : Int32 × hs} (H : f_X_pairs S x1 = some z) : Cl w (d + 7) m_X_pairs [.ref 33, .int x1] (mk c S) (some (.int z.1)) (mk c z.2) := by
  refine Cl.of (Nat.le_refl _) (Nat.le_refl _) (by decide +kernel) (Nat.le_of_ble_eq_true rfl) ?_
  unfold f_X_pairs at H
  generalize hN (mk c S) = n0
  generalize hZ (mk c S) = z0
  show J w (d + 7) m_X_pairs (n0, z0, some (.int z.1), mk c z.2) 0 [some (.ref 33), some (.int x1)] [] (mk c S)
  refine J.run b_X_pairs_0_1 k_X_pairs_0_1 rfl (show J w (d + 7) m_X_pairs (n0, z0, some (.int z.1), mk c z.2) 1 [some (.ref 33), some (.int x1)] [.int x1] (mk c S) from ?_)
  obtain ⟨r1, S2, h3, H⟩ := bd_e H
  refine J.callS (y := m_X_isWidth) (av := [.int x1]) (rest := []) l_X_131 d_X_pairs_1 (c_X_isWidth w (d + 5) c  S x1 h3) rfl (Nat.le_of_ble_eq_true rfl) ⟨Nat.le_refl _, Nat.le_refl _⟩ (show J w (d + 7) m_X_pairs (n0, z0, some (.int z.1), mk c z.2) 4 [some (.ref 33), some (.int x1)] [.int r1] (mk c S2) from ?_)
  refine J.zne (tgt := 9) d_X_pairs_4 rfl (fun q4 => ?_) (fun q4 => ?_)
  · have H := ite_f H q4
    refine J.run b_X_pairs_9_6 k_X_pairs_9_6 rfl (And.intro (okO_st (S := S2) rfl) (And.intro (okO_st (S := S2) rfl) (show J w (d + 7) m_X_pairs (n0, z0, some (.int z.1), mk c z.2) 19 [some (.ref 33), some (.int x1)] [.int (-1 : Int32), .int x1, .ref 34, .ref 138] (mk c S2) from ?_)))
    obtain ⟨r5, S6, h7, H⟩ := bd_e H
    refine J.callV (y := m_W_prepare) (av := [.ref 34, .int x1, .int (-1 : Int32)]) (rest := []) (q := 138) l_X_159 d_X_pairs_19 (isC_st rfl rfl) (c_W_prepare_34 w (d + 0) c  S2 x1 (-1 : Int32) h7) rfl (Nat.le_of_ble_eq_true rfl) ⟨Nat.le_refl _, Nat.le_refl _⟩ (show J w (d + 7) m_X_pairs (n0, z0, some (.int z.1), mk c z.2) 22 [some (.ref 33), some (.int x1)] [] (mk c S6) from ?_)
    refine J.run b_X_pairs_22_5 k_X_pairs_22_5 rfl (And.intro (okO_st (S := S6) rfl) (And.intro (okO_st (S := S6) rfl) (And.intro (okO_st (S := S6) rfl) (show J w (d + 7) m_X_pairs (n0, z0, some (.int z.1), mk c z.2) 33 [some (.ref 33), some (.int x1)] [.long (gJ S6 138 8), .ref 138] (mk c S6) from ?_))))
    obtain ⟨r8, S9, h10, H⟩ := bd_e H
    refine J.callV (y := m_W_countPairs) (av := [.long (gJ S6 138 8)]) (rest := []) (q := 138) l_X_191 d_X_pairs_33 (isC_st rfl rfl) (c_W_countPairs w (d + 2) c  S6 (gJ S6 138 8) h10) rfl (Nat.le_of_ble_eq_true rfl) ⟨Nat.le_refl _, Nat.le_refl _⟩ (show J w (d + 7) m_X_pairs (n0, z0, some (.int z.1), mk c z.2) 36 [some (.ref 33), some (.int x1)] [.int r8] (mk c S9) from ?_)
    obtain rfl := some_e H
    exact J.iret d_X_pairs_36 rfl rfl
  · have H := ite_t H q4
    refine J.run b_X_pairs_7_1 k_X_pairs_7_1 rfl (show J w (d + 7) m_X_pairs (n0, z0, some (.int z.1), mk c z.2) 8 [some (.ref 33), some (.int x1)] [.int (-1 : Int32)] (mk c S2) from ?_)
    obtain rfl := some_e H
    exact J.iret d_X_pairs_8 rfl rfl
def b_X_never_0_1 : List Ins := [(.iload_n 1, 0, 0, 0)]
theorem k_X_never_0_1 : bok m_X_never 0 b_X_never_0_1 = true := by decide +kernel
def b_X_never_9_6 : List Ins := [(.aload_n 0, 0, 0, 0), (.getfield 29, 0, 3, 2), (.aload_n 0, 0, 0, 0), (.getfield 10, 0, 0, 2), (.iload_n 1, 0, 0, 0), (.iconst (-1), 0, 0, 0)]
theorem k_X_never_9_6 : bok m_X_never 9 b_X_never_9_6 = true := by decide +kernel
def b_X_never_22_2 : List Ins := [(.aload_n 0, 0, 0, 0), (.getfield 29, 0, 3, 2)]
theorem k_X_never_22_2 : bok m_X_never 22 b_X_never_22_2 = true := by decide +kernel
def b_X_never_7_1 : List Ins := [(.iconst (-1), 0, 0, 0)]
theorem k_X_never_7_1 : bok m_X_never 7 b_X_never_7_1 = true := by decide +kernel
theorem d_X_never_1 : decode m_X_never.2.1 1 = .ok (.invokestatic 131, 3) := by decide +kernel
theorem d_X_never_4 : decode m_X_never.2.1 4 = .ok (.ifCond .ne (5), 3) := by decide +kernel
theorem d_X_never_19 : decode m_X_never.2.1 19 = .ok (.invokevirtual 159, 3) := by decide +kernel
theorem d_X_never_26 : decode m_X_never.2.1 26 = .ok (.invokevirtual 195, 3) := by decide +kernel
theorem d_X_never_29 : decode m_X_never.2.1 29 = .ok (.ireturn, 1) := by decide +kernel
theorem d_X_never_8 : decode m_X_never.2.1 8 = .ok (.ireturn, 1) := by decide +kernel
def f_X_never  (S : hs) (x1 : Int32) : Option (Int32 × hs) := bd (f_X_isWidth  S x1) fun r1 S2 => (if r1 = 0 then some ((-1 : Int32), S2) else bd (f_W_prepare_34  S2 x1 (-1 : Int32)) fun r5 S6 => bd (f_W_crossingsNeverReached  S6) fun r8 S9 => some (r8, S9))
theorem c_X_never (w : Wd) (d : Nat) (c : cx)   (S : hs) (x1 : Int32)  {z : Int32 × hs} (H : f_X_never S x1 = some z) : Cl w (d + 7) m_X_never [.ref 33, .int x1] (mk c S) (some (.int z.1)) (mk c z.2) := by
  refine Cl.of (Nat.le_refl _) (Nat.le_refl _) (by decide +kernel) (Nat.le_of_ble_eq_true rfl) ?_
  unfold f_X_never at H
  generalize hN (mk c S) = n0
  generalize hZ (mk c S) = z0
  show J w (d + 7) m_X_never (n0, z0, some (.int z.1), mk c z.2) 0 [some (.ref 33), some (.int x1)] [] (mk c S)
  refine J.run b_X_never_0_1 k_X_never_0_1 rfl (show J w (d + 7) m_X_never (n0, z0, some (.int z.1), mk c z.2) 1 [some (.ref 33), some (.int x1)] [.int x1] (mk c S) from ?_)
  obtain ⟨r1, S2, h3, H⟩ := bd_e H
  refine J.callS (y := m_X_isWidth) (av := [.int x1]) (rest := []) l_X_131 d_X_never_1 (c_X_isWidth w (d + 5) c  S x1 h3) rfl (Nat.le_of_ble_eq_true rfl) ⟨Nat.le_refl _, Nat.le_refl _⟩ (show J w (d + 7) m_X_never (n0, z0, some (.int z.1), mk c z.2) 4 [some (.ref 33), some (.int x1)] [.int r1] (mk c S2) from ?_)
  refine J.zne (tgt := 9) d_X_never_4 rfl (fun q4 => ?_) (fun q4 => ?_)
  · have H := ite_f H q4
    refine J.run b_X_never_9_6 k_X_never_9_6 rfl (And.intro (okO_st (S := S2) rfl) (And.intro (okO_st (S := S2) rfl) (show J w (d + 7) m_X_never (n0, z0, some (.int z.1), mk c z.2) 19 [some (.ref 33), some (.int x1)] [.int (-1 : Int32), .int x1, .ref 34, .ref 138] (mk c S2) from ?_)))
    obtain ⟨r5, S6, h7, H⟩ := bd_e H
    refine J.callV (y := m_W_prepare) (av := [.ref 34, .int x1, .int (-1 : Int32)]) (rest := []) (q := 138) l_X_159 d_X_never_19 (isC_st rfl rfl) (c_W_prepare_34 w (d + 0) c  S2 x1 (-1 : Int32) h7) rfl (Nat.le_of_ble_eq_true rfl) ⟨Nat.le_refl _, Nat.le_refl _⟩ (show J w (d + 7) m_X_never (n0, z0, some (.int z.1), mk c z.2) 22 [some (.ref 33), some (.int x1)] [] (mk c S6) from ?_)
    refine J.run b_X_never_22_2 k_X_never_22_2 rfl (And.intro (okO_st (S := S6) rfl) (show J w (d + 7) m_X_never (n0, z0, some (.int z.1), mk c z.2) 26 [some (.ref 33), some (.int x1)] [.ref 138] (mk c S6) from ?_))
    obtain ⟨r8, S9, h10, H⟩ := bd_e H
    refine J.callV (y := m_W_crossingsNeverReached) (av := []) (rest := []) (q := 138) l_X_195 d_X_never_26 (isC_st rfl rfl) (c_W_crossingsNeverReached w (d + 1) c  S6 h10) rfl (Nat.le_of_ble_eq_true rfl) ⟨Nat.le_refl _, Nat.le_refl _⟩ (show J w (d + 7) m_X_never (n0, z0, some (.int z.1), mk c z.2) 29 [some (.ref 33), some (.int x1)] [.int r8] (mk c S9) from ?_)
    obtain rfl := some_e H
    exact J.iret d_X_never_29 rfl rfl
  · have H := ite_t H q4
    refine J.run b_X_never_7_1 k_X_never_7_1 rfl (show J w (d + 7) m_X_never (n0, z0, some (.int z.1), mk c z.2) 8 [some (.ref 33), some (.int x1)] [.int (-1 : Int32)] (mk c S2) from ?_)
    obtain rfl := some_e H
    exact J.iret d_X_never_8 rfl rfl
def b_X_parts_0_1 : List Ins := [(.iload_n 1, 0, 0, 0)]
theorem k_X_parts_0_1 : bok m_X_parts 0 b_X_parts_0_1 = true := by decide +kernel
def b_X_parts_9_6 : List Ins := [(.aload_n 0, 0, 0, 0), (.getfield 29, 0, 3, 2), (.aload_n 0, 0, 0, 0), (.getfield 10, 0, 0, 2), (.iload_n 1, 0, 0, 0), (.iconst (-1), 0, 0, 0)]
theorem k_X_parts_9_6 : bok m_X_parts 9 b_X_parts_9_6 = true := by decide +kernel
def b_X_parts_22_2 : List Ins := [(.aload_n 0, 0, 0, 0), (.getfield 29, 0, 3, 2)]
theorem k_X_parts_22_2 : bok m_X_parts 22 b_X_parts_22_2 = true := by decide +kernel
def b_X_parts_7_1 : List Ins := [(.iconst (-1), 0, 0, 0)]
theorem k_X_parts_7_1 : bok m_X_parts 7 b_X_parts_7_1 = true := by decide +kernel
theorem d_X_parts_1 : decode m_X_parts.2.1 1 = .ok (.invokestatic 131, 3) := by decide +kernel
theorem d_X_parts_4 : decode m_X_parts.2.1 4 = .ok (.ifCond .ne (5), 3) := by decide +kernel
theorem d_X_parts_19 : decode m_X_parts.2.1 19 = .ok (.invokevirtual 159, 3) := by decide +kernel
theorem d_X_parts_26 : decode m_X_parts.2.1 26 = .ok (.invokevirtual 198, 3) := by decide +kernel
theorem d_X_parts_29 : decode m_X_parts.2.1 29 = .ok (.ireturn, 1) := by decide +kernel
theorem d_X_parts_8 : decode m_X_parts.2.1 8 = .ok (.ireturn, 1) := by decide +kernel
def f_X_parts  (S : hs) (x1 : Int32) : Option (Int32 × hs) := bd (f_X_isWidth  S x1) fun r1 S2 => (if r1 = 0 then some ((-1 : Int32), S2) else bd (f_W_prepare_34  S2 x1 (-1 : Int32)) fun r5 S6 => bd (f_W_countParts  S6) fun r8 S9 => some (r8, S9))
theorem c_X_parts (w : Wd) (d : Nat) (c : cx)   (S : hs) (x1 : Int32)  {z : Int32 × hs} (H : f_X_parts S x1 = some z) : Cl w (d + 7) m_X_parts [.ref 33, .int x1] (mk c S) (some (.int z.1)) (mk c z.2) := by
  refine Cl.of (Nat.le_refl _) (Nat.le_refl _) (by decide +kernel) (Nat.le_of_ble_eq_true rfl) ?_
  unfold f_X_parts at H
  generalize hN (mk c S) = n0
  generalize hZ (mk c S) = z0
  show J w (d + 7) m_X_parts (n0, z0, some (.int z.1), mk c z.2) 0 [some (.ref 33), some (.int x1)] [] (mk c S)
  refine J.run b_X_parts_0_1 k_X_parts_0_1 rfl (show J w (d + 7) m_X_parts (n0, z0, some (.int z.1), mk c z.2) 1 [some (.ref 33), some (.int x1)] [.int x1] (mk c S) from ?_)
  obtain ⟨r1, S2, h3, H⟩ := bd_e H
  refine J.callS (y := m_X_isWidth) (av := [.int x1]) (rest := []) l_X_131 d_X_parts_1 (c_X_isWidth w (d + 5) c  S x1 h3) rfl (Nat.le_of_ble_eq_true rfl) ⟨Nat.le_refl _, Nat.le_refl _⟩ (show J w (d + 7) m_X_parts (n0, z0, some (.int z.1), mk c z.2) 4 [some (.ref 33), some (.int x1)] [.int r1] (mk c S2) from ?_)
  refine J.zne (tgt := 9) d_X_parts_4 rfl (fun q4 => ?_) (fun q4 => ?_)
  · have H := ite_f H q4
    refine J.run b_X_parts_9_6 k_X_parts_9_6 rfl (And.intro (okO_st (S := S2) rfl) (And.intro (okO_st (S := S2) rfl) (show J w (d + 7) m_X_parts (n0, z0, some (.int z.1), mk c z.2) 19 [some (.ref 33), some (.int x1)] [.int (-1 : Int32), .int x1, .ref 34, .ref 138] (mk c S2) from ?_)))
    obtain ⟨r5, S6, h7, H⟩ := bd_e H
    refine J.callV (y := m_W_prepare) (av := [.ref 34, .int x1, .int (-1 : Int32)]) (rest := []) (q := 138) l_X_159 d_X_parts_19 (isC_st rfl rfl) (c_W_prepare_34 w (d + 0) c  S2 x1 (-1 : Int32) h7) rfl (Nat.le_of_ble_eq_true rfl) ⟨Nat.le_refl _, Nat.le_refl _⟩ (show J w (d + 7) m_X_parts (n0, z0, some (.int z.1), mk c z.2) 22 [some (.ref 33), some (.int x1)] [] (mk c S6) from ?_)
    refine J.run b_X_parts_22_2 k_X_parts_22_2 rfl (And.intro (okO_st (S := S6) rfl) (show J w (d + 7) m_X_parts (n0, z0, some (.int z.1), mk c z.2) 26 [some (.ref 33), some (.int x1)] [.ref 138] (mk c S6) from ?_))
    obtain ⟨r8, S9, h10, H⟩ := bd_e H
    refine J.callV (y := m_W_countParts) (av := []) (rest := []) (q := 138) l_X_198 d_X_parts_26 (isC_st rfl rfl) (c_W_countParts w (d + 2) c  S6 h10) rfl (Nat.le_of_ble_eq_true rfl) ⟨Nat.le_refl _, Nat.le_refl _⟩ (show J w (d + 7) m_X_parts (n0, z0, some (.int z.1), mk c z.2) 29 [some (.ref 33), some (.int x1)] [.int r8] (mk c S9) from ?_)
    obtain rfl := some_e H
    exact J.iret d_X_parts_29 rfl rfl
  · have H := ite_t H q4
    refine J.run b_X_parts_7_1 k_X_parts_7_1 rfl (show J w (d + 7) m_X_parts (n0, z0, some (.int z.1), mk c z.2) 8 [some (.ref 33), some (.int x1)] [.int (-1 : Int32)] (mk c S2) from ?_)
    obtain rfl := some_e H
    exact J.iret d_X_parts_8 rfl rfl
def b_X_loop_0_3 : List Ins := [(.aload_n 0, 0, 0, 0), (.getfield 10, 0, 0, 2), (.iload_n 1, 0, 0, 0)]
theorem k_X_loop_0_3 : bok m_X_loop 0 b_X_loop_0_3 = true := by decide +kernel
def b_X_loop_18_1 : List Ins := [(.iconst (-1), 0, 0, 0)]
theorem k_X_loop_18_1 : bok m_X_loop 18 b_X_loop_18_1 = true := by decide +kernel
def b_X_loop_11_1 : List Ins := [(.iload_n 2, 0, 0, 0)]
theorem k_X_loop_11_1 : bok m_X_loop 11 b_X_loop_11_1 = true := by decide +kernel
def b_X_loop_20_6 : List Ins := [(.aload_n 0, 0, 0, 0), (.getfield 29, 0, 3, 2), (.aload_n 0, 0, 0, 0), (.getfield 10, 0, 0, 2), (.iload_n 2, 0, 0, 0), (.iconst (-1), 0, 0, 0)]
theorem k_X_loop_20_6 : bok m_X_loop 20 b_X_loop_20_6 = true := by decide +kernel
def b_X_loop_33_3 : List Ins := [(.aload_n 0, 0, 0, 0), (.getfield 29, 0, 3, 2), (.iload_n 1, 0, 0, 0)]
theorem k_X_loop_33_3 : bok m_X_loop 33 b_X_loop_33_3 = true := by decide +kernel
def b_X_loop_41_3 : List Ins := [(.istore_n 3, 0, 0, 0), (.iload_n 3, 0, 0, 0), (.ldc 170, 0, 1000000, 0)]
theorem k_X_loop_41_3 : bok m_X_loop 41 b_X_loop_41_3 = true := by decide +kernel
def b_X_loop_53_1 : List Ins := [(.iload_n 3, 0, 0, 0)]
theorem k_X_loop_53_1 : bok m_X_loop 53 b_X_loop_53_1 = true := by decide +kernel
def b_X_loop_48_1 : List Ins := [(.bipush (-3), 0, 0, 0)]
theorem k_X_loop_48_1 : bok m_X_loop 48 b_X_loop_48_1 = true := by decide +kernel
theorem d_X_loop_5 : decode m_X_loop.2.1 5 = .ok (.invokevirtual 156, 3) := by decide +kernel
theorem d_X_loop_8 : decode m_X_loop.2.1 8 = .ok (.ifCond .eq (10), 3) := by decide +kernel
theorem d_X_loop_19 : decode m_X_loop.2.1 19 = .ok (.ireturn, 1) := by decide +kernel
theorem d_X_loop_12 : decode m_X_loop.2.1 12 = .ok (.invokestatic 131, 3) := by decide +kernel
theorem d_X_loop_15 : decode m_X_loop.2.1 15 = .ok (.ifCond .ne (5), 3) := by decide +kernel
theorem d_X_loop_30 : decode m_X_loop.2.1 30 = .ok (.invokevirtual 159, 3) := by decide +kernel
theorem d_X_loop_38 : decode m_X_loop.2.1 38 = .ok (.invokevirtual 201, 3) := by decide +kernel
theorem d_X_loop_45 : decode m_X_loop.2.1 45 = .ok (.if_icmp .ne (8), 3) := by decide +kernel
theorem d_X_loop_54 : decode m_X_loop.2.1 54 = .ok (.ireturn, 1) := by decide +kernel
theorem d_X_loop_50 : decode m_X_loop.2.1 50 = .ok (.goto (4), 3) := by decide +kernel
def f_X_loop  (S : hs) (x1 : Int32) (x2 : Int32) : Option (Int32 × hs) := bd (f_T_hasCourse  S x1) fun r1 S2 => (if r1 = 0 then some ((-1 : Int32), S2) else bd (f_X_isWidth  S2 x2) fun r5 S6 => (if r5 = 0 then some ((-1 : Int32), S6) else bd (f_W_prepare_34  S6 x2 (-1 : Int32)) fun r9 S10 => bd (f_W_loopOf  S10 x1) fun r12 S13 => (if r12 = (1000000 : Int32) then some ((-3 : Int32), S13) else some (r12, S13))))
theorem c_X_loop (w : Wd) (d : Nat) (c : cx)   (S : hs) (x1 : Int32) (x2 : Int32)  {z : Int32 × hs} (H : f_X_loop S x1 x2 = some z) : Cl w (d + 7) m_X_loop [.ref 33, .int x1, .int x2] (mk c S) (some (.int z.1)) (mk c z.2) := by
  refine Cl.of (Nat.le_refl _) (Nat.le_refl _) (by decide +kernel) (Nat.le_of_ble_eq_true rfl) ?_
  unfold f_X_loop at H
  generalize hN (mk c S) = n0
  generalize hZ (mk c S) = z0
  show J w (d + 7) m_X_loop (n0, z0, some (.int z.1), mk c z.2) 0 [some (.ref 33), some (.int x1), some (.int x2), none] [] (mk c S)
  refine J.run b_X_loop_0_3 k_X_loop_0_3 rfl (And.intro (okO_st (S := S) rfl) (show J w (d + 7) m_X_loop (n0, z0, some (.int z.1), mk c z.2) 5 [some (.ref 33), some (.int x1), some (.int x2), none] [.int x1, .ref 34] (mk c S) from ?_))
  obtain ⟨r1, S2, h3, H⟩ := bd_e H
  refine J.callV (y := m_T_hasCourse) (av := [.int x1]) (rest := []) (q := 34) l_X_156 d_X_loop_5 (isC_st rfl rfl) (c_T_hasCourse w (d + 3) c  S x1 h3) rfl (Nat.le_of_ble_eq_true rfl) ⟨Nat.le_refl _, Nat.le_refl _⟩ (show J w (d + 7) m_X_loop (n0, z0, some (.int z.1), mk c z.2) 8 [some (.ref 33), some (.int x1), some (.int x2), none] [.int r1] (mk c S2) from ?_)
  refine J.zeq (tgt := 18) d_X_loop_8 rfl (fun q4 => ?_) (fun q4 => ?_)
  · have H := ite_t H q4
    refine J.run b_X_loop_18_1 k_X_loop_18_1 rfl (show J w (d + 7) m_X_loop (n0, z0, some (.int z.1), mk c z.2) 19 [some (.ref 33), some (.int x1), some (.int x2), none] [.int (-1 : Int32)] (mk c S2) from ?_)
    obtain rfl := some_e H
    exact J.iret d_X_loop_19 rfl rfl
  · have H := ite_f H q4
    refine J.run b_X_loop_11_1 k_X_loop_11_1 rfl (show J w (d + 7) m_X_loop (n0, z0, some (.int z.1), mk c z.2) 12 [some (.ref 33), some (.int x1), some (.int x2), none] [.int x2] (mk c S2) from ?_)
    obtain ⟨r5, S6, h7, H⟩ := bd_e H
    refine J.callS (y := m_X_isWidth) (av := [.int x2]) (rest := []) l_X_131 d_X_loop_12 (c_X_isWidth w (d + 5) c  S2 x2 h7) rfl (Nat.le_of_ble_eq_true rfl) ⟨Nat.le_refl _, Nat.le_refl _⟩ (show J w (d + 7) m_X_loop (n0, z0, some (.int z.1), mk c z.2) 15 [some (.ref 33), some (.int x1), some (.int x2), none] [.int r5] (mk c S6) from ?_)
    refine J.zne (tgt := 20) d_X_loop_15 rfl (fun q8 => ?_) (fun q8 => ?_)
    · have H := ite_f H q8
      refine J.run b_X_loop_20_6 k_X_loop_20_6 rfl (And.intro (okO_st (S := S6) rfl) (And.intro (okO_st (S := S6) rfl) (show J w (d + 7) m_X_loop (n0, z0, some (.int z.1), mk c z.2) 30 [some (.ref 33), some (.int x1), some (.int x2), none] [.int (-1 : Int32), .int x2, .ref 34, .ref 138] (mk c S6) from ?_)))
      obtain ⟨r9, S10, h11, H⟩ := bd_e H
      refine J.callV (y := m_W_prepare) (av := [.ref 34, .int x2, .int (-1 : Int32)]) (rest := []) (q := 138) l_X_159 d_X_loop_30 (isC_st rfl rfl) (c_W_prepare_34 w (d + 0) c  S6 x2 (-1 : Int32) h11) rfl (Nat.le_of_ble_eq_true rfl) ⟨Nat.le_refl _, Nat.le_refl _⟩ (show J w (d + 7) m_X_loop (n0, z0, some (.int z.1), mk c z.2) 33 [some (.ref 33), some (.int x1), some (.int x2), none] [] (mk c S10) from ?_)
      refine J.run b_X_loop_33_3 k_X_loop_33_3 rfl (And.intro (okO_st (S := S10) rfl) (show J w (d + 7) m_X_loop (n0, z0, some (.int z.1), mk c z.2) 38 [some (.ref 33), some (.int x1), some (.int x2), none] [.int x1, .ref 138] (mk c S10) from ?_))
      obtain ⟨r12, S13, h14, H⟩ := bd_e H
      refine J.callV (y := m_W_loopOf) (av := [.int x1]) (rest := []) (q := 138) l_X_201 d_X_loop_38 (isC_st rfl rfl) (c_W_loopOf w (d + 2) c  S10 x1 h14) rfl (Nat.le_of_ble_eq_true rfl) ⟨Nat.le_refl _, Nat.le_refl _⟩ (show J w (d + 7) m_X_loop (n0, z0, some (.int z.1), mk c z.2) 41 [some (.ref 33), some (.int x1), some (.int x2), none] [.int r12] (mk c S13) from ?_)
      refine J.run b_X_loop_41_3 k_X_loop_41_3 rfl (show J w (d + 7) m_X_loop (n0, z0, some (.int z.1), mk c z.2) 45 [some (.ref 33), some (.int x1), some (.int x2), some (.int r12)] [.int (1000000 : Int32), .int r12] (mk c S13) from ?_)
      refine J.cne (tgt := 53) d_X_loop_45 rfl (fun q15 => ?_) (fun q15 => ?_)
      · have H := ite_f H q15
        refine J.run b_X_loop_53_1 k_X_loop_53_1 rfl (show J w (d + 7) m_X_loop (n0, z0, some (.int z.1), mk c z.2) 54 [some (.ref 33), some (.int x1), some (.int x2), some (.int r12)] [.int r12] (mk c S13) from ?_)
        obtain rfl := some_e H
        exact J.iret d_X_loop_54 rfl rfl
      · have H := ite_t H q15
        refine J.run b_X_loop_48_1 k_X_loop_48_1 rfl (show J w (d + 7) m_X_loop (n0, z0, some (.int z.1), mk c z.2) 50 [some (.ref 33), some (.int x1), some (.int x2), some (.int r12)] [.int (-3 : Int32)] (mk c S13) from ?_)
        refine J.goto (tgt := 54) d_X_loop_50 rfl ?_
        obtain rfl := some_e H
        exact J.iret d_X_loop_54 rfl rfl
    · have H := ite_t H q8
      refine J.run b_X_loop_18_1 k_X_loop_18_1 rfl (show J w (d + 7) m_X_loop (n0, z0, some (.int z.1), mk c z.2) 19 [some (.ref 33), some (.int x1), some (.int x2), none] [.int (-1 : Int32)] (mk c S6) from ?_)
      obtain rfl := some_e H
      exact J.iret d_X_loop_19 rfl rfl
def b_X_worst_0_1 : List Ins := [(.iload_n 1, 0, 0, 0)]
theorem k_X_worst_0_1 : bok m_X_worst 0 b_X_worst_0_1 = true := by decide +kernel
def b_X_worst_9_6 : List Ins := [(.aload_n 0, 0, 0, 0), (.getfield 29, 0, 3, 2), (.aload_n 0, 0, 0, 0), (.getfield 10, 0, 0, 2), (.iload_n 1, 0, 0, 0), (.iconst (-1), 0, 0, 0)]
theorem k_X_worst_9_6 : bok m_X_worst 9 b_X_worst_9_6 = true := by decide +kernel
def b_X_worst_22_2 : List Ins := [(.aload_n 0, 0, 0, 0), (.getfield 29, 0, 3, 2)]
theorem k_X_worst_22_2 : bok m_X_worst 22 b_X_worst_22_2 = true := by decide +kernel
def b_X_worst_29_2 : List Ins := [(.aload_n 0, 0, 0, 0), (.getfield 29, 0, 3, 2)]
theorem k_X_worst_29_2 : bok m_X_worst 29 b_X_worst_29_2 = true := by decide +kernel
def b_X_worst_7_1 : List Ins := [(.iconst (-1), 0, 0, 0)]
theorem k_X_worst_7_1 : bok m_X_worst 7 b_X_worst_7_1 = true := by decide +kernel
theorem d_X_worst_1 : decode m_X_worst.2.1 1 = .ok (.invokestatic 131, 3) := by decide +kernel
theorem d_X_worst_4 : decode m_X_worst.2.1 4 = .ok (.ifCond .ne (5), 3) := by decide +kernel
theorem d_X_worst_19 : decode m_X_worst.2.1 19 = .ok (.invokevirtual 159, 3) := by decide +kernel
theorem d_X_worst_26 : decode m_X_worst.2.1 26 = .ok (.invokevirtual 178, 3) := by decide +kernel
theorem d_X_worst_33 : decode m_X_worst.2.1 33 = .ok (.invokevirtual 204, 3) := by decide +kernel
theorem d_X_worst_36 : decode m_X_worst.2.1 36 = .ok (.ireturn, 1) := by decide +kernel
theorem d_X_worst_8 : decode m_X_worst.2.1 8 = .ok (.ireturn, 1) := by decide +kernel
def f_X_worst  (S : hs) (x1 : Int32) : Option (Int32 × hs) := bd (f_X_isWidth  S x1) fun r1 S2 => (if r1 = 0 then some ((-1 : Int32), S2) else bd (f_W_prepare_34  S2 x1 (-1 : Int32)) fun r5 S6 => bd (f_W_measureFreely  S6) fun r8 S9 => bd (f_W_worstDetour  S9) fun r11 S12 => some (r11, S12))
theorem c_X_worst (w : Wd) (d : Nat) (c : cx)   (S : hs) (x1 : Int32)  {z : Int32 × hs} (H : f_X_worst S x1 = some z) : Cl w (d + 7) m_X_worst [.ref 33, .int x1] (mk c S) (some (.int z.1)) (mk c z.2) := by
  refine Cl.of (Nat.le_refl _) (Nat.le_refl _) (by decide +kernel) (Nat.le_of_ble_eq_true rfl) ?_
  unfold f_X_worst at H
  generalize hN (mk c S) = n0
  generalize hZ (mk c S) = z0
  show J w (d + 7) m_X_worst (n0, z0, some (.int z.1), mk c z.2) 0 [some (.ref 33), some (.int x1)] [] (mk c S)
  refine J.run b_X_worst_0_1 k_X_worst_0_1 rfl (show J w (d + 7) m_X_worst (n0, z0, some (.int z.1), mk c z.2) 1 [some (.ref 33), some (.int x1)] [.int x1] (mk c S) from ?_)
  obtain ⟨r1, S2, h3, H⟩ := bd_e H
  refine J.callS (y := m_X_isWidth) (av := [.int x1]) (rest := []) l_X_131 d_X_worst_1 (c_X_isWidth w (d + 5) c  S x1 h3) rfl (Nat.le_of_ble_eq_true rfl) ⟨Nat.le_refl _, Nat.le_refl _⟩ (show J w (d + 7) m_X_worst (n0, z0, some (.int z.1), mk c z.2) 4 [some (.ref 33), some (.int x1)] [.int r1] (mk c S2) from ?_)
  refine J.zne (tgt := 9) d_X_worst_4 rfl (fun q4 => ?_) (fun q4 => ?_)
  · have H := ite_f H q4
    refine J.run b_X_worst_9_6 k_X_worst_9_6 rfl (And.intro (okO_st (S := S2) rfl) (And.intro (okO_st (S := S2) rfl) (show J w (d + 7) m_X_worst (n0, z0, some (.int z.1), mk c z.2) 19 [some (.ref 33), some (.int x1)] [.int (-1 : Int32), .int x1, .ref 34, .ref 138] (mk c S2) from ?_)))
    obtain ⟨r5, S6, h7, H⟩ := bd_e H
    refine J.callV (y := m_W_prepare) (av := [.ref 34, .int x1, .int (-1 : Int32)]) (rest := []) (q := 138) l_X_159 d_X_worst_19 (isC_st rfl rfl) (c_W_prepare_34 w (d + 0) c  S2 x1 (-1 : Int32) h7) rfl (Nat.le_of_ble_eq_true rfl) ⟨Nat.le_refl _, Nat.le_refl _⟩ (show J w (d + 7) m_X_worst (n0, z0, some (.int z.1), mk c z.2) 22 [some (.ref 33), some (.int x1)] [] (mk c S6) from ?_)
    refine J.run b_X_worst_22_2 k_X_worst_22_2 rfl (And.intro (okO_st (S := S6) rfl) (show J w (d + 7) m_X_worst (n0, z0, some (.int z.1), mk c z.2) 26 [some (.ref 33), some (.int x1)] [.ref 138] (mk c S6) from ?_))
    obtain ⟨r8, S9, h10, H⟩ := bd_e H
    refine J.callV (y := m_W_measureFreely) (av := []) (rest := []) (q := 138) l_X_178 d_X_worst_26 (isC_st rfl rfl) (c_W_measureFreely w (d + 3) c  S6 h10) rfl (Nat.le_of_ble_eq_true rfl) ⟨Nat.le_refl _, Nat.le_refl _⟩ (show J w (d + 7) m_X_worst (n0, z0, some (.int z.1), mk c z.2) 29 [some (.ref 33), some (.int x1)] [] (mk c S9) from ?_)
    refine J.run b_X_worst_29_2 k_X_worst_29_2 rfl (And.intro (okO_st (S := S9) rfl) (show J w (d + 7) m_X_worst (n0, z0, some (.int z.1), mk c z.2) 33 [some (.ref 33), some (.int x1)] [.ref 138] (mk c S9) from ?_))
    obtain ⟨r11, S12, h13, H⟩ := bd_e H
    refine J.callV (y := m_W_worstDetour) (av := []) (rest := []) (q := 138) l_X_204 d_X_worst_33 (isC_st rfl rfl) (c_W_worstDetour w (d + 1) c  S9 h13) rfl (Nat.le_of_ble_eq_true rfl) ⟨Nat.le_refl _, Nat.le_refl _⟩ (show J w (d + 7) m_X_worst (n0, z0, some (.int z.1), mk c z.2) 36 [some (.ref 33), some (.int x1)] [.int r11] (mk c S12) from ?_)
    obtain rfl := some_e H
    exact J.iret d_X_worst_36 rfl rfl
  · have H := ite_t H q4
    refine J.run b_X_worst_7_1 k_X_worst_7_1 rfl (show J w (d + 7) m_X_worst (n0, z0, some (.int z.1), mk c z.2) 8 [some (.ref 33), some (.int x1)] [.int (-1 : Int32)] (mk c S2) from ?_)
    obtain rfl := some_e H
    exact J.iret d_X_worst_8 rfl rfl
def b_X_opened_0_1 : List Ins := [(.iload_n 1, 0, 0, 0)]
theorem k_X_opened_0_1 : bok m_X_opened 0 b_X_opened_0_1 = true := by decide +kernel
def b_X_opened_9_6 : List Ins := [(.aload_n 0, 0, 0, 0), (.getfield 29, 0, 3, 2), (.aload_n 0, 0, 0, 0), (.getfield 10, 0, 0, 2), (.iload_n 1, 0, 0, 0), (.iconst (-1), 0, 0, 0)]
theorem k_X_opened_9_6 : bok m_X_opened 9 b_X_opened_9_6 = true := by decide +kernel
def b_X_opened_22_2 : List Ins := [(.aload_n 0, 0, 0, 0), (.getfield 29, 0, 3, 2)]
theorem k_X_opened_22_2 : bok m_X_opened 22 b_X_opened_22_2 = true := by decide +kernel
def b_X_opened_7_1 : List Ins := [(.iconst (-1), 0, 0, 0)]
theorem k_X_opened_7_1 : bok m_X_opened 7 b_X_opened_7_1 = true := by decide +kernel
theorem d_X_opened_1 : decode m_X_opened.2.1 1 = .ok (.invokestatic 131, 3) := by decide +kernel
theorem d_X_opened_4 : decode m_X_opened.2.1 4 = .ok (.ifCond .ne (5), 3) := by decide +kernel
theorem d_X_opened_19 : decode m_X_opened.2.1 19 = .ok (.invokevirtual 159, 3) := by decide +kernel
theorem d_X_opened_26 : decode m_X_opened.2.1 26 = .ok (.invokevirtual 207, 3) := by decide +kernel
theorem d_X_opened_29 : decode m_X_opened.2.1 29 = .ok (.ireturn, 1) := by decide +kernel
theorem d_X_opened_8 : decode m_X_opened.2.1 8 = .ok (.ireturn, 1) := by decide +kernel
def f_X_opened  (S : hs) (x1 : Int32) : Option (Int32 × hs) := bd (f_X_isWidth  S x1) fun r1 S2 => (if r1 = 0 then some ((-1 : Int32), S2) else bd (f_W_prepare_34  S2 x1 (-1 : Int32)) fun r5 S6 => bd (f_W_bestToOpen  S6) fun r8 S9 => some (r8, S9))
theorem c_X_opened (w : Wd) (d : Nat) (c : cx)   (S : hs) (x1 : Int32)  {z : Int32 × hs} (H : f_X_opened S x1 = some z) : Cl w (d + 7) m_X_opened [.ref 33, .int x1] (mk c S) (some (.int z.1)) (mk c z.2) := by
  refine Cl.of (Nat.le_refl _) (Nat.le_refl _) (by decide +kernel) (Nat.le_of_ble_eq_true rfl) ?_
  unfold f_X_opened at H
  generalize hN (mk c S) = n0
  generalize hZ (mk c S) = z0
  show J w (d + 7) m_X_opened (n0, z0, some (.int z.1), mk c z.2) 0 [some (.ref 33), some (.int x1)] [] (mk c S)
  refine J.run b_X_opened_0_1 k_X_opened_0_1 rfl (show J w (d + 7) m_X_opened (n0, z0, some (.int z.1), mk c z.2) 1 [some (.ref 33), some (.int x1)] [.int x1] (mk c S) from ?_)
  obtain ⟨r1, S2, h3, H⟩ := bd_e H
  refine J.callS (y := m_X_isWidth) (av := [.int x1]) (rest := []) l_X_131 d_X_opened_1 (c_X_isWidth w (d + 5) c  S x1 h3) rfl (Nat.le_of_ble_eq_true rfl) ⟨Nat.le_refl _, Nat.le_refl _⟩ (show J w (d + 7) m_X_opened (n0, z0, some (.int z.1), mk c z.2) 4 [some (.ref 33), some (.int x1)] [.int r1] (mk c S2) from ?_)
  refine J.zne (tgt := 9) d_X_opened_4 rfl (fun q4 => ?_) (fun q4 => ?_)
  · have H := ite_f H q4
    refine J.run b_X_opened_9_6 k_X_opened_9_6 rfl (And.intro (okO_st (S := S2) rfl) (And.intro (okO_st (S := S2) rfl) (show J w (d + 7) m_X_opened (n0, z0, some (.int z.1), mk c z.2) 19 [some (.ref 33), some (.int x1)] [.int (-1 : Int32), .int x1, .ref 34, .ref 138] (mk c S2) from ?_)))
    obtain ⟨r5, S6, h7, H⟩ := bd_e H
    refine J.callV (y := m_W_prepare) (av := [.ref 34, .int x1, .int (-1 : Int32)]) (rest := []) (q := 138) l_X_159 d_X_opened_19 (isC_st rfl rfl) (c_W_prepare_34 w (d + 0) c  S2 x1 (-1 : Int32) h7) rfl (Nat.le_of_ble_eq_true rfl) ⟨Nat.le_refl _, Nat.le_refl _⟩ (show J w (d + 7) m_X_opened (n0, z0, some (.int z.1), mk c z.2) 22 [some (.ref 33), some (.int x1)] [] (mk c S6) from ?_)
    refine J.run b_X_opened_22_2 k_X_opened_22_2 rfl (And.intro (okO_st (S := S6) rfl) (show J w (d + 7) m_X_opened (n0, z0, some (.int z.1), mk c z.2) 26 [some (.ref 33), some (.int x1)] [.ref 138] (mk c S6) from ?_))
    obtain ⟨r8, S9, h10, H⟩ := bd_e H
    refine J.callV (y := m_W_bestToOpen) (av := []) (rest := []) (q := 138) l_X_207 d_X_opened_26 (isC_st rfl rfl) (c_W_bestToOpen w (d + 1) c  S6 h10) rfl (Nat.le_of_ble_eq_true rfl) ⟨Nat.le_refl _, Nat.le_refl _⟩ (show J w (d + 7) m_X_opened (n0, z0, some (.int z.1), mk c z.2) 29 [some (.ref 33), some (.int x1)] [.int r8] (mk c S9) from ?_)
    obtain rfl := some_e H
    exact J.iret d_X_opened_29 rfl rfl
  · have H := ite_t H q4
    refine J.run b_X_opened_7_1 k_X_opened_7_1 rfl (show J w (d + 7) m_X_opened (n0, z0, some (.int z.1), mk c z.2) 8 [some (.ref 33), some (.int x1)] [.int (-1 : Int32)] (mk c S2) from ?_)
    obtain rfl := some_e H
    exact J.iret d_X_opened_8 rfl rfl
def b_Ar_fill_aIIV_0_5 : List Ins := [(.iconst (0), 0, 0, 0), (.istore_n 2, 0, 0, 0), (.aload_n 0, 0, 0, 0), (.arraylength, 0, 0, 0), (.istore_n 3, 0, 0, 0)]
theorem k_Ar_fill_aIIV_0_5 : bok m_Ar_fill_aIIV 0 b_Ar_fill_aIIV_0_5 = true := by decide +kernel
def lp_Ar_fill_aIIV_145_5 (x1 : Int32) (x3 : Int32)   : Nat → hs → Int32 → Option (Int32 × hs)
  | 0, _, _ => none
  | n + 1, S, x2 => (if x3 ≤ x2 then some ((0 : Int32), S) else ck (inb x2 12) (lp_Ar_fill_aIIV_145_5 x1 x3 n (uI S 145 (x2).toNatClampNeg x1) (x2 + (1 : Int32))))
def f_Ar_fill_aIIV_145  (S : hs) (x1 : Int32) : Option (Int32 × hs) := lp_Ar_fill_aIIV_145_5 x1 (12 : Int32) 1000 S (0 : Int32)
theorem lo_Ar_fill_aIIV_145_5 (w : Wd) (d : Nat) (c : cx) {n0 z0 : Nat} {z : Int32 × hs}   (x1 : Int32) (x3 : Int32)    :
    ∀ (n : Nat) (S : hs) (x2 : Int32), lp_Ar_fill_aIIV_145_5 x1 x3 n S x2 = some z → J w (d + 1) m_Ar_fill_aIIV (n0, z0, none, mk c z.2) 5 [some (.ref 145), some (.int x1), some (.int x2), some (.int x3)] [] (mk c S) := by
  intro n
  induction n with
  | zero => intro S x2 H; cases H
  | succ n ih =>
    intro S x2 H
    rw [lp_Ar_fill_aIIV_145_5] at H
    refine J.run b_Ar_fill_aIIV_5_2 k_Ar_fill_aIIV_5_2 rfl (show J w (d + 1) m_Ar_fill_aIIV (n0, z0, none, mk c z.2) 7 [some (.ref 145), some (.int x1), some (.int x2), some (.int x3)] [.int x3, .int x2] (mk c S) from ?_)
    refine J.cge (tgt := 20) d_Ar_fill_aIIV_7 rfl (fun q1 => ?_) (fun q1 => ?_)
    · have H := ite_t H q1
      obtain rfl := some_e H
      exact J.vret d_Ar_fill_aIIV_20 rfl rfl
    · have H := ite_f H q1
      obtain ⟨g2, H⟩ := ck_e H
      refine J.run b_Ar_fill_aIIV_10_5 k_Ar_fill_aIIV_10_5 rfl (And.intro (okB_st (S := S) (n := 12) rfl g2) (show J w (d + 1) m_Ar_fill_aIIV (n0, z0, none, mk c z.2) 17 [some (.ref 145), some (.int x1), some (.int (x2 + (1 : Int32))), some (.int x3)] [] (mk c (uI S 145 (x2).toNatClampNeg x1)) from ?_))
      refine J.goto (tgt := 5) d_Ar_fill_aIIV_17 rfl ?_
      refine J.mask [true, true, true, true] ?_
      exact ih (uI S 145 (x2).toNatClampNeg x1) (x2 + (1 : Int32)) H
theorem c_Ar_fill_aIIV_145 (w : Wd) (d : Nat) (c : cx)   (S : hs) (x1 : Int32)  {z : Int32 × hs} (H : f_Ar_fill_aIIV_145 S x1 = some z) : Cl w (d + 1) m_Ar_fill_aIIV [.ref 145, .int x1] (mk c S) (none) (mk c z.2) := by
  refine Cl.of (Nat.le_refl _) (Nat.le_refl _) (by decide +kernel) (Nat.le_of_ble_eq_true rfl) ?_
  unfold f_Ar_fill_aIIV_145 at H
  generalize hN (mk c S) = n0
  generalize hZ (mk c S) = z0
  show J w (d + 1) m_Ar_fill_aIIV (n0, z0, none, mk c z.2) 0 [some (.ref 145), some (.int x1), none, none] [] (mk c S)
  refine J.run b_Ar_fill_aIIV_0_5 k_Ar_fill_aIIV_0_5 rfl (And.intro (okN_st (S := S) (k := 20) (n := 12) rfl rfl) (show J w (d + 1) m_Ar_fill_aIIV (n0, z0, none, mk c z.2) 5 [some (.ref 145), some (.int x1), some (.int (0 : Int32)), some (.int (12 : Int32))] [] (mk c S) from ?_))
  refine J.mask [true, true, true, true] ?_
  refine lo_Ar_fill_aIIV_145_5 w d c x1 (12 : Int32)  1000 S (0 : Int32) H
def b_X_meet_0_3 : List Ins := [(.aload_n 0, 0, 0, 0), (.getfield 10, 0, 0, 2), (.iload_n 1, 0, 0, 0)]
theorem k_X_meet_0_3 : bok m_X_meet 0 b_X_meet_0_3 = true := by decide +kernel
def b_X_meet_36_1 : List Ins := [(.iconst (-1), 0, 0, 0)]
theorem k_X_meet_36_1 : bok m_X_meet 36 b_X_meet_36_1 = true := by decide +kernel
def b_X_meet_11_3 : List Ins := [(.aload_n 0, 0, 0, 0), (.getfield 10, 0, 0, 2), (.iload_n 2, 0, 0, 0)]
theorem k_X_meet_11_3 : bok m_X_meet 11 b_X_meet_11_3 = true := by decide +kernel
def b_X_meet_22_2 : List Ins := [(.iload_n 1, 0, 0, 0), (.iload_n 2, 0, 0, 0)]
theorem k_X_meet_22_2 : bok m_X_meet 22 b_X_meet_22_2 = true := by decide +kernel
def b_X_meet_27_1 : List Ins := [(.iload_n 3, 0, 0, 0)]
theorem k_X_meet_27_1 : bok m_X_meet 27 b_X_meet_27_1 = true := by decide +kernel
def b_X_meet_31_2 : List Ins := [(.iload_n 3, 0, 0, 0), (.iconst (1), 0, 0, 0)]
theorem k_X_meet_31_2 : bok m_X_meet 31 b_X_meet_31_2 = true := by decide +kernel
def b_X_meet_38_4 : List Ins := [(.aload_n 0, 0, 0, 0), (.getfield 29, 0, 3, 2), (.getfield 210, 4, 6, 2), (.iconst (0), 0, 0, 0)]
theorem k_X_meet_38_4 : bok m_X_meet 38 b_X_meet_38_4 = true := by decide +kernel
def b_X_meet_49_12 : List Ins := [(.aload_n 0, 0, 0, 0), (.getfield 29, 0, 3, 2), (.aload_n 0, 0, 0, 0), (.getfield 10, 0, 0, 2), (.aload_n 0, 0, 0, 0), (.getfield 10, 0, 0, 2), (.getfield 150, 1, 2, 2), (.iload_n 1, 0, 0, 0), (.aaload, 0, 0, 0), (.iconst (1), 0, 0, 0), (.iaload, 0, 0, 0), (.iconst (-1), 0, 0, 0)]
theorem k_X_meet_49_12 : bok m_X_meet 49 b_X_meet_49_12 = true := by decide +kernel
def b_X_meet_72_9 : List Ins := [(.aload_n 0, 0, 0, 0), (.getfield 29, 0, 3, 2), (.aload_n 0, 0, 0, 0), (.getfield 10, 0, 0, 2), (.getfield 150, 1, 2, 2), (.iload_n 1, 0, 0, 0), (.aaload, 0, 0, 0), (.iconst (0), 0, 0, 0), (.iaload, 0, 0, 0)]
theorem k_X_meet_72_9 : bok m_X_meet 72 b_X_meet_72_9 = true := by decide +kernel
def b_X_meet_90_12 : List Ins := [(.aload_n 0, 0, 0, 0), (.getfield 29, 0, 3, 2), (.aload_n 0, 0, 0, 0), (.getfield 10, 0, 0, 2), (.aload_n 0, 0, 0, 0), (.getfield 10, 0, 0, 2), (.getfield 150, 1, 2, 2), (.iload_n 2, 0, 0, 0), (.aaload, 0, 0, 0), (.iconst (1), 0, 0, 0), (.iaload, 0, 0, 0), (.iconst (-1), 0, 0, 0)]
theorem k_X_meet_90_12 : bok m_X_meet 90 b_X_meet_90_12 = true := by decide +kernel
def b_X_meet_113_9 : List Ins := [(.aload_n 0, 0, 0, 0), (.getfield 29, 0, 3, 2), (.aload_n 0, 0, 0, 0), (.getfield 10, 0, 0, 2), (.getfield 150, 1, 2, 2), (.iload_n 2, 0, 0, 0), (.aaload, 0, 0, 0), (.iconst (0), 0, 0, 0), (.iaload, 0, 0, 0)]
theorem k_X_meet_113_9 : bok m_X_meet 113 b_X_meet_113_9 = true := by decide +kernel
def b_X_meet_131_2 : List Ins := [(.aload_n 0, 0, 0, 0), (.getfield 29, 0, 3, 2)]
theorem k_X_meet_131_2 : bok m_X_meet 131 b_X_meet_131_2 = true := by decide +kernel
def b_X_meet_138_3 : List Ins := [(.istore 4, 0, 0, 0), (.iload 4, 0, 0, 0), (.bipush (-3), 0, 0, 0)]
theorem k_X_meet_138_3 : bok m_X_meet 138 b_X_meet_138_3 = true := by decide +kernel
def b_X_meet_150_1 : List Ins := [(.iload_n 3, 0, 0, 0)]
theorem k_X_meet_150_1 : bok m_X_meet 150 b_X_meet_150_1 = true := by decide +kernel
def b_X_meet_159_5 : List Ins := [(.aload_n 0, 0, 0, 0), (.getfield 29, 0, 3, 2), (.getfield 210, 4, 6, 2), (.iload 4, 0, 0, 0), (.iaload, 0, 0, 0)]
theorem k_X_meet_159_5 : bok m_X_meet 159 b_X_meet_159_5 = true := by decide +kernel
def b_X_meet_154_1 : List Ins := [(.iload 4, 0, 0, 0)]
theorem k_X_meet_154_1 : bok m_X_meet 154 b_X_meet_154_1 = true := by decide +kernel
def b_X_meet_147_1 : List Ins := [(.bipush (-3), 0, 0, 0)]
theorem k_X_meet_147_1 : bok m_X_meet 147 b_X_meet_147_1 = true := by decide +kernel
theorem d_X_meet_5 : decode m_X_meet.2.1 5 = .ok (.invokevirtual 147, 3) := by decide +kernel
theorem d_X_meet_8 : decode m_X_meet.2.1 8 = .ok (.ifCond .eq (28), 3) := by decide +kernel
theorem d_X_meet_37 : decode m_X_meet.2.1 37 = .ok (.ireturn, 1) := by decide +kernel
theorem d_X_meet_16 : decode m_X_meet.2.1 16 = .ok (.invokevirtual 147, 3) := by decide +kernel
theorem d_X_meet_19 : decode m_X_meet.2.1 19 = .ok (.ifCond .eq (17), 3) := by decide +kernel
theorem d_X_meet_24 : decode m_X_meet.2.1 24 = .ok (.if_icmp .eq (12), 3) := by decide +kernel
theorem d_X_meet_28 : decode m_X_meet.2.1 28 = .ok (.ifCond .lt (8), 3) := by decide +kernel
theorem d_X_meet_33 : decode m_X_meet.2.1 33 = .ok (.if_icmp .le (5), 3) := by decide +kernel
theorem d_X_meet_46 : decode m_X_meet.2.1 46 = .ok (.invokestatic 214, 3) := by decide +kernel
theorem d_X_meet_69 : decode m_X_meet.2.1 69 = .ok (.invokevirtual 159, 3) := by decide +kernel
theorem d_X_meet_87 : decode m_X_meet.2.1 87 = .ok (.invokevirtual 220, 3) := by decide +kernel
theorem d_X_meet_110 : decode m_X_meet.2.1 110 = .ok (.invokevirtual 159, 3) := by decide +kernel
theorem d_X_meet_128 : decode m_X_meet.2.1 128 = .ok (.invokevirtual 220, 3) := by decide +kernel
theorem d_X_meet_135 : decode m_X_meet.2.1 135 = .ok (.invokevirtual 223, 3) := by decide +kernel
theorem d_X_meet_144 : decode m_X_meet.2.1 144 = .ok (.if_icmp .ne (6), 3) := by decide +kernel
theorem d_X_meet_151 : decode m_X_meet.2.1 151 = .ok (.ifCond .ne (8), 3) := by decide +kernel
theorem d_X_meet_169 : decode m_X_meet.2.1 169 = .ok (.ireturn, 1) := by decide +kernel
theorem d_X_meet_156 : decode m_X_meet.2.1 156 = .ok (.goto (13), 3) := by decide +kernel
theorem d_X_meet_149 : decode m_X_meet.2.1 149 = .ok (.ireturn, 1) := by decide +kernel
def f_X_meet  (S : hs) (x1 : Int32) (x2 : Int32) (x3 : Int32) : Option (Int32 × hs) := bd (f_T_hasWalker  S x1) fun r1 S2 => (if r1 = 0 then some ((-1 : Int32), S2) else bd (f_T_hasWalker  S2 x2) fun r5 S6 => (if r5 = 0 then some ((-1 : Int32), S6) else (if x1 = x2 then some ((-1 : Int32), S6) else (if x3 < 0 then some ((-1 : Int32), S6) else (if x3 ≤ (1 : Int32) then bd (f_Ar_fill_aIIV_145  S6 (0 : Int32)) fun r12 S13 => ck (inb x1 4) (bd (f_W_prepare_34  S13 (gI S13 (70 + (x1).toNatClampNeg) 1) (-1 : Int32)) fun r16 S17 => bd (f_W_raiseGreater  S17 (gI S17 (70 + (x1).toNatClampNeg) 0)) fun r19 S20 => ck (inb x2 4) (bd (f_W_prepare_34  S20 (gI S20 (70 + (x2).toNatClampNeg) 1) (-1 : Int32)) fun r23 S24 => bd (f_W_raiseGreater  S24 (gI S24 (70 + (x2).toNatClampNeg) 0)) fun r26 S27 => bd (f_W_meetingPlace  S27) fun r29 S30 => (if r29 = (-3 : Int32) then some ((-3 : Int32), S30) else (if x3 = 0 then some (r29, S30) else ck (inb r29 12) (some ((gI S30 145 (r29).toNatClampNeg), S30)))))) else some ((-1 : Int32), S6))))))
theorem c_X_meet (w : Wd) (d : Nat) (c : cx)   (S : hs) (x1 : Int32) (x2 : Int32) (x3 : Int32)  {z : Int32 × hs} (H : f_X_meet S x1 x2 x3 = some z) : Cl w (d + 7) m_X_meet [.ref 33, .int x1, .int x2, .int x3] (mk c S) (some (.int z.1)) (mk c z.2) := by
  refine Cl.of (Nat.le_refl _) (Nat.le_refl _) (by decide +kernel) (Nat.le_of_ble_eq_true rfl) ?_
  unfold f_X_meet at H
  generalize hN (mk c S) = n0
  generalize hZ (mk c S) = z0
  show J w (d + 7) m_X_meet (n0, z0, some (.int z.1), mk c z.2) 0 [some (.ref 33), some (.int x1), some (.int x2), some (.int x3), none] [] (mk c S)
  refine J.run b_X_meet_0_3 k_X_meet_0_3 rfl (And.intro (okO_st (S := S) rfl) (show J w (d + 7) m_X_meet (n0, z0, some (.int z.1), mk c z.2) 5 [some (.ref 33), some (.int x1), some (.int x2), some (.int x3), none] [.int x1, .ref 34] (mk c S) from ?_))
  obtain ⟨r1, S2, h3, H⟩ := bd_e H
  refine J.callV (y := m_T_hasWalker) (av := [.int x1]) (rest := []) (q := 34) l_X_147 d_X_meet_5 (isC_st rfl rfl) (c_T_hasWalker w (d + 5) c  S x1 h3) rfl (Nat.le_of_ble_eq_true rfl) ⟨Nat.le_refl _, Nat.le_refl _⟩ (show J w (d + 7) m_X_meet (n0, z0, some (.int z.1), mk c z.2) 8 [some (.ref 33), some (.int x1), some (.int x2), some (.int x3), none] [.int r1] (mk c S2) from ?_)
  refine J.zeq (tgt := 36) d_X_meet_8 rfl (fun q4 => ?_) (fun q4 => ?_)
  · have H := ite_t H q4
    refine J.run b_X_meet_36_1 k_X_meet_36_1 rfl (show J w (d + 7) m_X_meet (n0, z0, some (.int z.1), mk c z.2) 37 [some (.ref 33), some (.int x1), some (.int x2), some (.int x3), none] [.int (-1 : Int32)] (mk c S2) from ?_)
    obtain rfl := some_e H
    exact J.iret d_X_meet_37 rfl rfl
  · have H := ite_f H q4
    refine J.run b_X_meet_11_3 k_X_meet_11_3 rfl (And.intro (okO_st (S := S2) rfl) (show J w (d + 7) m_X_meet (n0, z0, some (.int z.1), mk c z.2) 16 [some (.ref 33), some (.int x1), some (.int x2), some (.int x3), none] [.int x2, .ref 34] (mk c S2) from ?_))
    obtain ⟨r5, S6, h7, H⟩ := bd_e H
    refine J.callV (y := m_T_hasWalker) (av := [.int x2]) (rest := []) (q := 34) l_X_147 d_X_meet_16 (isC_st rfl rfl) (c_T_hasWalker w (d + 5) c  S2 x2 h7) rfl (Nat.le_of_ble_eq_true rfl) ⟨Nat.le_refl _, Nat.le_refl _⟩ (show J w (d + 7) m_X_meet (n0, z0, some (.int z.1), mk c z.2) 19 [some (.ref 33), some (.int x1), some (.int x2), some (.int x3), none] [.int r5] (mk c S6) from ?_)
    refine J.zeq (tgt := 36) d_X_meet_19 rfl (fun q8 => ?_) (fun q8 => ?_)
    · have H := ite_t H q8
      refine J.run b_X_meet_36_1 k_X_meet_36_1 rfl (show J w (d + 7) m_X_meet (n0, z0, some (.int z.1), mk c z.2) 37 [some (.ref 33), some (.int x1), some (.int x2), some (.int x3), none] [.int (-1 : Int32)] (mk c S6) from ?_)
      obtain rfl := some_e H
      exact J.iret d_X_meet_37 rfl rfl
    · have H := ite_f H q8
      refine J.run b_X_meet_22_2 k_X_meet_22_2 rfl (show J w (d + 7) m_X_meet (n0, z0, some (.int z.1), mk c z.2) 24 [some (.ref 33), some (.int x1), some (.int x2), some (.int x3), none] [.int x2, .int x1] (mk c S6) from ?_)
      refine J.ceq (tgt := 36) d_X_meet_24 rfl (fun q9 => ?_) (fun q9 => ?_)
      · have H := ite_t H q9
        refine J.run b_X_meet_36_1 k_X_meet_36_1 rfl (show J w (d + 7) m_X_meet (n0, z0, some (.int z.1), mk c z.2) 37 [some (.ref 33), some (.int x1), some (.int x2), some (.int x3), none] [.int (-1 : Int32)] (mk c S6) from ?_)
        obtain rfl := some_e H
        exact J.iret d_X_meet_37 rfl rfl
      · have H := ite_f H q9
        refine J.run b_X_meet_27_1 k_X_meet_27_1 rfl (show J w (d + 7) m_X_meet (n0, z0, some (.int z.1), mk c z.2) 28 [some (.ref 33), some (.int x1), some (.int x2), some (.int x3), none] [.int x3] (mk c S6) from ?_)
        refine J.zlt (tgt := 36) d_X_meet_28 rfl (fun q10 => ?_) (fun q10 => ?_)
        · have H := ite_t H q10
          refine J.run b_X_meet_36_1 k_X_meet_36_1 rfl (show J w (d + 7) m_X_meet (n0, z0, some (.int z.1), mk c z.2) 37 [some (.ref 33), some (.int x1), some (.int x2), some (.int x3), none] [.int (-1 : Int32)] (mk c S6) from ?_)
          obtain rfl := some_e H
          exact J.iret d_X_meet_37 rfl rfl
        · have H := ite_f H q10
          refine J.run b_X_meet_31_2 k_X_meet_31_2 rfl (show J w (d + 7) m_X_meet (n0, z0, some (.int z.1), mk c z.2) 33 [some (.ref 33), some (.int x1), some (.int x2), some (.int x3), none] [.int (1 : Int32), .int x3] (mk c S6) from ?_)
          refine J.cle (tgt := 38) d_X_meet_33 rfl (fun q11 => ?_) (fun q11 => ?_)
          · have H := ite_t H q11
            refine J.run b_X_meet_38_4 k_X_meet_38_4 rfl (And.intro (okO_st (S := S6) rfl) (And.intro (okO_st (S := S6) rfl) (show J w (d + 7) m_X_meet (n0, z0, some (.int z.1), mk c z.2) 46 [some (.ref 33), some (.int x1), some (.int x2), some (.int x3), none] [.int (0 : Int32), .ref 145] (mk c S6) from ?_)))
            obtain ⟨r12, S13, h14, H⟩ := bd_e H
            refine J.callS (y := m_Ar_fill_aIIV) (av := [.ref 145, .int (0 : Int32)]) (rest := []) l_X_214 d_X_meet_46 (c_Ar_fill_aIIV_145 w (d + 5) c  S6 (0 : Int32) h14) rfl (Nat.le_of_ble_eq_true rfl) ⟨Nat.le_refl _, Nat.le_refl _⟩ (show J w (d + 7) m_X_meet (n0, z0, some (.int z.1), mk c z.2) 49 [some (.ref 33), some (.int x1), some (.int x2), some (.int x3), none] [] (mk c S13) from ?_)
            obtain ⟨g15, H⟩ := ck_e H
            refine J.run b_X_meet_49_12 k_X_meet_49_12 rfl (And.intro (okO_st (S := S13) rfl) (And.intro (okO_st (S := S13) rfl) (And.intro (okO_st (S := S13) rfl) (And.intro (okO_st (S := S13) rfl) (And.intro (okQ_st (S := S13) (k := 23) (n := 4) rfl rfl g15) (And.intro (okA_row (S := S13) (b := 70) (cnt := 4) (n := 3) rfl (inb_lt g15) rfl) (show J w (d + 7) m_X_meet (n0, z0, some (.int z.1), mk c z.2) 69 [some (.ref 33), some (.int x1), some (.int x2), some (.int x3), none] [.int (-1 : Int32), .int (gI S13 (70 + (x1).toNatClampNeg) 1), .ref 34, .ref 138] (mk c S13) from ?_)))))))
            obtain ⟨r16, S17, h18, H⟩ := bd_e H
            refine J.callV (y := m_W_prepare) (av := [.ref 34, .int (gI S13 (70 + (x1).toNatClampNeg) 1), .int (-1 : Int32)]) (rest := []) (q := 138) l_X_159 d_X_meet_69 (isC_st rfl rfl) (c_W_prepare_34 w (d + 0) c  S13 (gI S13 (70 + (x1).toNatClampNeg) 1) (-1 : Int32) h18) rfl (Nat.le_of_ble_eq_true rfl) ⟨Nat.le_refl _, Nat.le_refl _⟩ (show J w (d + 7) m_X_meet (n0, z0, some (.int z.1), mk c z.2) 72 [some (.ref 33), some (.int x1), some (.int x2), some (.int x3), none] [] (mk c S17) from ?_)
            refine J.run b_X_meet_72_9 k_X_meet_72_9 rfl (And.intro (okO_st (S := S17) rfl) (And.intro (okO_st (S := S17) rfl) (And.intro (okO_st (S := S17) rfl) (And.intro (okQ_st (S := S17) (k := 23) (n := 4) rfl rfl g15) (And.intro (okA_row (S := S17) (b := 70) (cnt := 4) (n := 3) rfl (inb_lt g15) rfl) (show J w (d + 7) m_X_meet (n0, z0, some (.int z.1), mk c z.2) 87 [some (.ref 33), some (.int x1), some (.int x2), some (.int x3), none] [.int (gI S17 (70 + (x1).toNatClampNeg) 0), .ref 138] (mk c S17) from ?_))))))
            obtain ⟨r19, S20, h21, H⟩ := bd_e H
            refine J.callV (y := m_W_raiseGreater) (av := [.int (gI S17 (70 + (x1).toNatClampNeg) 0)]) (rest := []) (q := 138) l_X_220 d_X_meet_87 (isC_st rfl rfl) (c_W_raiseGreater w (d + 1) c  S17 (gI S17 (70 + (x1).toNatClampNeg) 0) h21) rfl (Nat.le_of_ble_eq_true rfl) ⟨Nat.le_refl _, Nat.le_refl _⟩ (show J w (d + 7) m_X_meet (n0, z0, some (.int z.1), mk c z.2) 90 [some (.ref 33), some (.int x1), some (.int x2), some (.int x3), none] [] (mk c S20) from ?_)
            obtain ⟨g22, H⟩ := ck_e H
            refine J.run b_X_meet_90_12 k_X_meet_90_12 rfl (And.intro (okO_st (S := S20) rfl) (And.intro (okO_st (S := S20) rfl) (And.intro (okO_st (S := S20) rfl) (And.intro (okO_st (S := S20) rfl) (And.intro (okQ_st (S := S20) (k := 23) (n := 4) rfl rfl g22) (And.intro (okA_row (S := S20) (b := 70) (cnt := 4) (n := 3) rfl (inb_lt g22) rfl) (show J w (d + 7) m_X_meet (n0, z0, some (.int z.1), mk c z.2) 110 [some (.ref 33), some (.int x1), some (.int x2), some (.int x3), none] [.int (-1 : Int32), .int (gI S20 (70 + (x2).toNatClampNeg) 1), .ref 34, .ref 138] (mk c S20) from ?_)))))))
            obtain ⟨r23, S24, h25, H⟩ := bd_e H
            refine J.callV (y := m_W_prepare) (av := [.ref 34, .int (gI S20 (70 + (x2).toNatClampNeg) 1), .int (-1 : Int32)]) (rest := []) (q := 138) l_X_159 d_X_meet_110 (isC_st rfl rfl) (c_W_prepare_34 w (d + 0) c  S20 (gI S20 (70 + (x2).toNatClampNeg) 1) (-1 : Int32) h25) rfl (Nat.le_of_ble_eq_true rfl) ⟨Nat.le_refl _, Nat.le_refl _⟩ (show J w (d + 7) m_X_meet (n0, z0, some (.int z.1), mk c z.2) 113 [some (.ref 33), some (.int x1), some (.int x2), some (.int x3), none] [] (mk c S24) from ?_)
            refine J.run b_X_meet_113_9 k_X_meet_113_9 rfl (And.intro (okO_st (S := S24) rfl) (And.intro (okO_st (S := S24) rfl) (And.intro (okO_st (S := S24) rfl) (And.intro (okQ_st (S := S24) (k := 23) (n := 4) rfl rfl g22) (And.intro (okA_row (S := S24) (b := 70) (cnt := 4) (n := 3) rfl (inb_lt g22) rfl) (show J w (d + 7) m_X_meet (n0, z0, some (.int z.1), mk c z.2) 128 [some (.ref 33), some (.int x1), some (.int x2), some (.int x3), none] [.int (gI S24 (70 + (x2).toNatClampNeg) 0), .ref 138] (mk c S24) from ?_))))))
            obtain ⟨r26, S27, h28, H⟩ := bd_e H
            refine J.callV (y := m_W_raiseGreater) (av := [.int (gI S24 (70 + (x2).toNatClampNeg) 0)]) (rest := []) (q := 138) l_X_220 d_X_meet_128 (isC_st rfl rfl) (c_W_raiseGreater w (d + 1) c  S24 (gI S24 (70 + (x2).toNatClampNeg) 0) h28) rfl (Nat.le_of_ble_eq_true rfl) ⟨Nat.le_refl _, Nat.le_refl _⟩ (show J w (d + 7) m_X_meet (n0, z0, some (.int z.1), mk c z.2) 131 [some (.ref 33), some (.int x1), some (.int x2), some (.int x3), none] [] (mk c S27) from ?_)
            refine J.run b_X_meet_131_2 k_X_meet_131_2 rfl (And.intro (okO_st (S := S27) rfl) (show J w (d + 7) m_X_meet (n0, z0, some (.int z.1), mk c z.2) 135 [some (.ref 33), some (.int x1), some (.int x2), some (.int x3), none] [.ref 138] (mk c S27) from ?_))
            obtain ⟨r29, S30, h31, H⟩ := bd_e H
            refine J.callV (y := m_W_meetingPlace) (av := []) (rest := []) (q := 138) l_X_223 d_X_meet_135 (isC_st rfl rfl) (c_W_meetingPlace w (d + 5) c  S27 h31) rfl (Nat.le_of_ble_eq_true rfl) ⟨Nat.le_refl _, Nat.le_refl _⟩ (show J w (d + 7) m_X_meet (n0, z0, some (.int z.1), mk c z.2) 138 [some (.ref 33), some (.int x1), some (.int x2), some (.int x3), none] [.int r29] (mk c S30) from ?_)
            refine J.run b_X_meet_138_3 k_X_meet_138_3 rfl (show J w (d + 7) m_X_meet (n0, z0, some (.int z.1), mk c z.2) 144 [some (.ref 33), some (.int x1), some (.int x2), some (.int x3), some (.int r29)] [.int (-3 : Int32), .int r29] (mk c S30) from ?_)
            refine J.cne (tgt := 150) d_X_meet_144 rfl (fun q32 => ?_) (fun q32 => ?_)
            · have H := ite_f H q32
              refine J.run b_X_meet_150_1 k_X_meet_150_1 rfl (show J w (d + 7) m_X_meet (n0, z0, some (.int z.1), mk c z.2) 151 [some (.ref 33), some (.int x1), some (.int x2), some (.int x3), some (.int r29)] [.int x3] (mk c S30) from ?_)
              refine J.zne (tgt := 159) d_X_meet_151 rfl (fun q33 => ?_) (fun q33 => ?_)
              · have H := ite_f H q33
                obtain ⟨g34, H⟩ := ck_e H
                refine J.run b_X_meet_159_5 k_X_meet_159_5 rfl (And.intro (okO_st (S := S30) rfl) (And.intro (okO_st (S := S30) rfl) (And.intro (okA_st (S := S30) (n := 12) rfl g34) (show J w (d + 7) m_X_meet (n0, z0, some (.int z.1), mk c z.2) 169 [some (.ref 33), some (.int x1), some (.int x2), some (.int x3), some (.int r29)] [.int (gI S30 145 (r29).toNatClampNeg)] (mk c S30) from ?_))))
                obtain rfl := some_e H
                exact J.iret d_X_meet_169 rfl rfl
              · have H := ite_t H q33
                refine J.run b_X_meet_154_1 k_X_meet_154_1 rfl (show J w (d + 7) m_X_meet (n0, z0, some (.int z.1), mk c z.2) 156 [some (.ref 33), some (.int x1), some (.int x2), some (.int x3), some (.int r29)] [.int r29] (mk c S30) from ?_)
                refine J.goto (tgt := 169) d_X_meet_156 rfl ?_
                obtain rfl := some_e H
                exact J.iret d_X_meet_169 rfl rfl
            · have H := ite_t H q32
              refine J.run b_X_meet_147_1 k_X_meet_147_1 rfl (show J w (d + 7) m_X_meet (n0, z0, some (.int z.1), mk c z.2) 149 [some (.ref 33), some (.int x1), some (.int x2), some (.int x3), some (.int r29)] [.int (-3 : Int32)] (mk c S30) from ?_)
              obtain rfl := some_e H
              exact J.iret d_X_meet_149 rfl rfl
          · have H := ite_f H q11
            refine J.run b_X_meet_36_1 k_X_meet_36_1 rfl (show J w (d + 7) m_X_meet (n0, z0, some (.int z.1), mk c z.2) 37 [some (.ref 33), some (.int x1), some (.int x2), some (.int x3), none] [.int (-1 : Int32)] (mk c S6) from ?_)
            obtain rfl := some_e H
            exact J.iret d_X_meet_37 rfl rfl
def b_X_other_0_1 : List Ins := [(.iload_n 1, 0, 0, 0)]
theorem k_X_other_0_1 : bok m_X_other 0 b_X_other_0_1 = true := by decide +kernel
def b_X_other_10_1 : List Ins := [(.iconst (-1), 0, 0, 0)]
theorem k_X_other_10_1 : bok m_X_other 10 b_X_other_10_1 = true := by decide +kernel
def b_X_other_4_2 : List Ins := [(.iload_n 1, 0, 0, 0), (.bipush (15), 0, 0, 0)]
theorem k_X_other_4_2 : bok m_X_other 4 b_X_other_4_2 = true := by decide +kernel
def b_X_other_12_6 : List Ins := [(.aload_n 0, 0, 0, 0), (.getfield 29, 0, 3, 2), (.aload_n 0, 0, 0, 0), (.getfield 10, 0, 0, 2), (.iconst (0), 0, 0, 0), (.iload_n 1, 0, 0, 0)]
theorem k_X_other_12_6 : bok m_X_other 12 b_X_other_12_6 = true := by decide +kernel
def b_X_other_25_5 : List Ins := [(.aload_n 0, 0, 0, 0), (.getfield 29, 0, 3, 2), (.aload_n 0, 0, 0, 0), (.getfield 29, 0, 3, 2), (.getfield 187, 4, 8, 1)]
theorem k_X_other_25_5 : bok m_X_other 25 b_X_other_25_5 = true := by decide +kernel
theorem d_X_other_1 : decode m_X_other.2.1 1 = .ok (.ifCond .lt (9), 3) := by decide +kernel
theorem d_X_other_11 : decode m_X_other.2.1 11 = .ok (.ireturn, 1) := by decide +kernel
theorem d_X_other_7 : decode m_X_other.2.1 7 = .ok (.if_icmp .le (5), 3) := by decide +kernel
theorem d_X_other_22 : decode m_X_other.2.1 22 = .ok (.invokevirtual 159, 3) := by decide +kernel
theorem d_X_other_36 : decode m_X_other.2.1 36 = .ok (.invokevirtual 191, 3) := by decide +kernel
theorem d_X_other_39 : decode m_X_other.2.1 39 = .ok (.ireturn, 1) := by decide +kernel
def f_X_other  (S : hs) (x1 : Int32) : Option (Int32 × hs) := (if x1 < 0 then some ((-1 : Int32), S) else (if x1 ≤ (15 : Int32) then bd (f_W_prepare_34  S (0 : Int32) x1) fun r3 S4 => bd (f_W_countPairs  S4 (gJ S4 138 8)) fun r6 S7 => some (r6, S7) else some ((-1 : Int32), S)))
theorem c_X_other (w : Wd) (d : Nat) (c : cx)   (S : hs) (x1 : Int32)  {z : Int32 × hs} (H : f_X_other S x1 = some z) : Cl w (d + 7) m_X_other [.ref 33, .int x1] (mk c S) (some (.int z.1)) (mk c z.2) := by
  refine Cl.of (Nat.le_refl _) (Nat.le_refl _) (by decide +kernel) (Nat.le_of_ble_eq_true rfl) ?_
  unfold f_X_other at H
  generalize hN (mk c S) = n0
  generalize hZ (mk c S) = z0
  show J w (d + 7) m_X_other (n0, z0, some (.int z.1), mk c z.2) 0 [some (.ref 33), some (.int x1)] [] (mk c S)
  refine J.run b_X_other_0_1 k_X_other_0_1 rfl (show J w (d + 7) m_X_other (n0, z0, some (.int z.1), mk c z.2) 1 [some (.ref 33), some (.int x1)] [.int x1] (mk c S) from ?_)
  refine J.zlt (tgt := 10) d_X_other_1 rfl (fun q1 => ?_) (fun q1 => ?_)
  · have H := ite_t H q1
    refine J.run b_X_other_10_1 k_X_other_10_1 rfl (show J w (d + 7) m_X_other (n0, z0, some (.int z.1), mk c z.2) 11 [some (.ref 33), some (.int x1)] [.int (-1 : Int32)] (mk c S) from ?_)
    obtain rfl := some_e H
    exact J.iret d_X_other_11 rfl rfl
  · have H := ite_f H q1
    refine J.run b_X_other_4_2 k_X_other_4_2 rfl (show J w (d + 7) m_X_other (n0, z0, some (.int z.1), mk c z.2) 7 [some (.ref 33), some (.int x1)] [.int (15 : Int32), .int x1] (mk c S) from ?_)
    refine J.cle (tgt := 12) d_X_other_7 rfl (fun q2 => ?_) (fun q2 => ?_)
    · have H := ite_t H q2
      refine J.run b_X_other_12_6 k_X_other_12_6 rfl (And.intro (okO_st (S := S) rfl) (And.intro (okO_st (S := S) rfl) (show J w (d + 7) m_X_other (n0, z0, some (.int z.1), mk c z.2) 22 [some (.ref 33), some (.int x1)] [.int x1, .int (0 : Int32), .ref 34, .ref 138] (mk c S) from ?_)))
      obtain ⟨r3, S4, h5, H⟩ := bd_e H
      refine J.callV (y := m_W_prepare) (av := [.ref 34, .int (0 : Int32), .int x1]) (rest := []) (q := 138) l_X_159 d_X_other_22 (isC_st rfl rfl) (c_W_prepare_34 w (d + 0) c  S (0 : Int32) x1 h5) rfl (Nat.le_of_ble_eq_true rfl) ⟨Nat.le_refl _, Nat.le_refl _⟩ (show J w (d + 7) m_X_other (n0, z0, some (.int z.1), mk c z.2) 25 [some (.ref 33), some (.int x1)] [] (mk c S4) from ?_)
      refine J.run b_X_other_25_5 k_X_other_25_5 rfl (And.intro (okO_st (S := S4) rfl) (And.intro (okO_st (S := S4) rfl) (And.intro (okO_st (S := S4) rfl) (show J w (d + 7) m_X_other (n0, z0, some (.int z.1), mk c z.2) 36 [some (.ref 33), some (.int x1)] [.long (gJ S4 138 8), .ref 138] (mk c S4) from ?_))))
      obtain ⟨r6, S7, h8, H⟩ := bd_e H
      refine J.callV (y := m_W_countPairs) (av := [.long (gJ S4 138 8)]) (rest := []) (q := 138) l_X_191 d_X_other_36 (isC_st rfl rfl) (c_W_countPairs w (d + 2) c  S4 (gJ S4 138 8) h8) rfl (Nat.le_of_ble_eq_true rfl) ⟨Nat.le_refl _, Nat.le_refl _⟩ (show J w (d + 7) m_X_other (n0, z0, some (.int z.1), mk c z.2) 39 [some (.ref 33), some (.int x1)] [.int r6] (mk c S7) from ?_)
      obtain rfl := some_e H
      exact J.iret d_X_other_39 rfl rfl
    · have H := ite_f H q2
      refine J.run b_X_other_10_1 k_X_other_10_1 rfl (show J w (d + 7) m_X_other (n0, z0, some (.int z.1), mk c z.2) 11 [some (.ref 33), some (.int x1)] [.int (-1 : Int32)] (mk c S) from ?_)
      obtain rfl := some_e H
      exact J.iret d_X_other_11 rfl rfl
def b_W_writeRows_0_6 : List Ins := [(.iload_n 1, 0, 0, 0), (.istore_n 3, 0, 0, 0), (.iconst (0), 0, 0, 0), (.istore 4, 0, 0, 0), (.iconst (0), 0, 0, 0), (.istore 5, 0, 0, 0)]
theorem k_W_writeRows_0_6 : bok m_W_writeRows 0 b_W_writeRows_0_6 = true := by decide +kernel
def b_W_writeRows_8_2 : List Ins := [(.iload 5, 0, 0, 0), (.bipush (20), 0, 0, 0)]
theorem k_W_writeRows_8_2 : bok m_W_writeRows 8 b_W_writeRows_8_2 = true := by decide +kernel
def b_W_writeRows_81_1 : List Ins := [(.bipush (20), 0, 0, 0)]
theorem k_W_writeRows_81_1 : bok m_W_writeRows 81 b_W_writeRows_81_1 = true := by decide +kernel
def b_W_writeRows_15_3 : List Ins := [(.iload 5, 0, 0, 0), (.aload_n 2, 0, 0, 0), (.arraylength, 0, 0, 0)]
theorem k_W_writeRows_15_3 : bok m_W_writeRows 15 b_W_writeRows_15_3 = true := by decide +kernel
def b_W_writeRows_22_2 : List Ins := [(.aload_n 0, 0, 0, 0), (.iload_n 3, 0, 0, 0)]
theorem k_W_writeRows_22_2 : bok m_W_writeRows 22 b_W_writeRows_22_2 = true := by decide +kernel
def b_W_writeRows_27_3 : List Ins := [(.istore_n 3, 0, 0, 0), (.iload_n 3, 0, 0, 0), (.bipush (-3), 0, 0, 0)]
theorem k_W_writeRows_27_3 : bok m_W_writeRows 27 b_W_writeRows_27_3 = true := by decide +kernel
def b_W_writeRows_37_29 : List Ins := [(.iload 4, 0, 0, 0), (.aload_n 0, 0, 0, 0), (.getfield 18, 4, 2, 2), (.iload_n 3, 0, 0, 0), (.iaload, 0, 0, 0), (.iadd, 0, 0, 0), (.istore 4, 0, 0, 0), (.aload_n 2, 0, 0, 0), (.iload 5, 0, 0, 0), (.aaload, 0, 0, 0), (.iconst (0), 0, 0, 0), (.iload_n 3, 0, 0, 0), (.iastore, 0, 0, 0), (.aload_n 2, 0, 0, 0), (.iload 5, 0, 0, 0), (.aaload, 0, 0, 0), (.iconst (1), 0, 0, 0), (.aload_n 0, 0, 0, 0), (.getfield 15, 4, 1, 2), (.iload_n 3, 0, 0, 0), (.iaload, 0, 0, 0), (.iastore, 0, 0, 0), (.aload_n 2, 0, 0, 0), (.iload 5, 0, 0, 0), (.aaload, 0, 0, 0), (.iconst (2), 0, 0, 0), (.iload 4, 0, 0, 0), (.iastore, 0, 0, 0), (.iinc 5 (1), 0, 0, 0)]
theorem k_W_writeRows_37_29 : bok m_W_writeRows 37 b_W_writeRows_37_29 = true := by decide +kernel
def b_W_writeRows_34_1 : List Ins := [(.iload 5, 0, 0, 0)]
theorem k_W_writeRows_34_1 : bok m_W_writeRows 34 b_W_writeRows_34_1 = true := by decide +kernel
theorem d_W_writeRows_12 : decode m_W_writeRows.2.1 12 = .ok (.if_icmp .ge (69), 3) := by decide +kernel
theorem d_W_writeRows_83 : decode m_W_writeRows.2.1 83 = .ok (.ireturn, 1) := by decide +kernel
theorem d_W_writeRows_19 : decode m_W_writeRows.2.1 19 = .ok (.if_icmp .ge (62), 3) := by decide +kernel
theorem d_W_writeRows_24 : decode m_W_writeRows.2.1 24 = .ok (.invokevirtual 111, 3) := by decide +kernel
theorem d_W_writeRows_31 : decode m_W_writeRows.2.1 31 = .ok (.if_icmp .ne (6), 3) := by decide +kernel
theorem d_W_writeRows_78 : decode m_W_writeRows.2.1 78 = .ok (.goto (-70), 3) := by decide +kernel
theorem d_W_writeRows_36 : decode m_W_writeRows.2.1 36 = .ok (.ireturn, 1) := by decide +kernel
def lp_W_writeRows_170_8    : Nat → hs → Int32 → Int32 → Int32 → Option (Int32 × hs)
  | 0, _, _, _, _ => none
  | n + 1, S, x3, x4, x5 => (if (20 : Int32) ≤ x5 then some ((20 : Int32), S) else (if (20 : Int32) ≤ x5 then some ((20 : Int32), S) else bd (f_W_firstFrom  S x3) fun r3 S4 => (if r3 = (-3 : Int32) then some (x5, S4) else ck (inb r3 40) (ck (inb x5 20) (lp_W_writeRows_170_8  n (uI (uI (uI S4 (171 + (x5).toNatClampNeg) 0 r3) (171 + (x5).toNatClampNeg) 1 (gI (uI S4 (171 + (x5).toNatClampNeg) 0 r3) 140 (r3).toNatClampNeg)) (171 + (x5).toNatClampNeg) 2 (x4 + (gI S4 141 (r3).toNatClampNeg))) r3 (x4 + (gI S4 141 (r3).toNatClampNeg)) (x5 + (1 : Int32)))))))
def f_W_writeRows_170  (S : hs) (x1 : Int32) : Option (Int32 × hs) := lp_W_writeRows_170_8  1000 S x1 (0 : Int32) (0 : Int32)
theorem lo_W_writeRows_170_8 (w : Wd) (d : Nat) (c : cx) {n0 z0 : Nat} {z : Int32 × hs}       :
    ∀ (n : Nat) (S : hs) (x3 : Int32) (x4 : Int32) (x5 : Int32), lp_W_writeRows_170_8  n S x3 x4 x5 = some z → J w (d + 3) m_W_writeRows (n0, z0, some (.int z.1), mk c z.2) 8 [some (.ref 138), none, some (.ref 170), some (.int x3), some (.int x4), some (.int x5)] [] (mk c S) := by
  intro n
  induction n with
  | zero => intro S x3 x4 x5 H; cases H
  | succ n ih =>
    intro S x3 x4 x5 H
    rw [lp_W_writeRows_170_8] at H
    refine J.run b_W_writeRows_8_2 k_W_writeRows_8_2 rfl (show J w (d + 3) m_W_writeRows (n0, z0, some (.int z.1), mk c z.2) 12 [some (.ref 138), none, some (.ref 170), some (.int x3), some (.int x4), some (.int x5)] [.int (20 : Int32), .int x5] (mk c S) from ?_)
    refine J.cge (tgt := 81) d_W_writeRows_12 rfl (fun q1 => ?_) (fun q1 => ?_)
    · have H := ite_t H q1
      refine J.run b_W_writeRows_81_1 k_W_writeRows_81_1 rfl (show J w (d + 3) m_W_writeRows (n0, z0, some (.int z.1), mk c z.2) 83 [some (.ref 138), none, some (.ref 170), some (.int x3), some (.int x4), some (.int x5)] [.int (20 : Int32)] (mk c S) from ?_)
      obtain rfl := some_e H
      exact J.iret d_W_writeRows_83 rfl rfl
    · have H := ite_f H q1
      refine J.run b_W_writeRows_15_3 k_W_writeRows_15_3 rfl (And.intro (okN_st (S := S) (k := 23) (n := 20) rfl rfl) (show J w (d + 3) m_W_writeRows (n0, z0, some (.int z.1), mk c z.2) 19 [some (.ref 138), none, some (.ref 170), some (.int x3), some (.int x4), some (.int x5)] [.int (20 : Int32), .int x5] (mk c S) from ?_))
      refine J.cge (tgt := 81) d_W_writeRows_19 rfl (fun q2 => ?_) (fun q2 => ?_)
      · have H := ite_t H q2
        refine J.run b_W_writeRows_81_1 k_W_writeRows_81_1 rfl (show J w (d + 3) m_W_writeRows (n0, z0, some (.int z.1), mk c z.2) 83 [some (.ref 138), none, some (.ref 170), some (.int x3), some (.int x4), some (.int x5)] [.int (20 : Int32)] (mk c S) from ?_)
        obtain rfl := some_e H
        exact J.iret d_W_writeRows_83 rfl rfl
      · have H := ite_f H q2
        refine J.run b_W_writeRows_22_2 k_W_writeRows_22_2 rfl (show J w (d + 3) m_W_writeRows (n0, z0, some (.int z.1), mk c z.2) 24 [some (.ref 138), none, some (.ref 170), some (.int x3), some (.int x4), some (.int x5)] [.int x3, .ref 138] (mk c S) from ?_)
        obtain ⟨r3, S4, h5, H⟩ := bd_e H
        refine J.callV (y := m_W_firstFrom) (av := [.int x3]) (rest := []) (q := 138) l_W_111 d_W_writeRows_24 (isC_st rfl rfl) (c_W_firstFrom w (d + 0) c  S x3 h5) rfl (Nat.le_of_ble_eq_true rfl) ⟨Nat.le_refl _, Nat.le_refl _⟩ (show J w (d + 3) m_W_writeRows (n0, z0, some (.int z.1), mk c z.2) 27 [some (.ref 138), none, some (.ref 170), some (.int x3), some (.int x4), some (.int x5)] [.int r3] (mk c S4) from ?_)
        refine J.run b_W_writeRows_27_3 k_W_writeRows_27_3 rfl (show J w (d + 3) m_W_writeRows (n0, z0, some (.int z.1), mk c z.2) 31 [some (.ref 138), none, some (.ref 170), some (.int r3), some (.int x4), some (.int x5)] [.int (-3 : Int32), .int r3] (mk c S4) from ?_)
        refine J.cne (tgt := 37) d_W_writeRows_31 rfl (fun q6 => ?_) (fun q6 => ?_)
        · have H := ite_f H q6
          obtain ⟨g7, H⟩ := ck_e H
          obtain ⟨g8, H⟩ := ck_e H
          refine J.run b_W_writeRows_37_29 k_W_writeRows_37_29 rfl (And.intro (okO_st (S := S4) rfl) (And.intro (okA_st (S := S4) (n := 40) rfl g7) (And.intro (okQ_st (S := S4) (k := 23) (n := 20) rfl rfl g8) (And.intro (okB_row (S := S4) (b := 171) (cnt := 20) (n := 3) rfl (inb_lt g8) rfl) (And.intro (okQ_st (S := (uI S4 (171 + (x5).toNatClampNeg) 0 r3)) (k := 23) (n := 20) rfl rfl g8) (And.intro (okO_st (S := (uI S4 (171 + (x5).toNatClampNeg) 0 r3)) rfl) (And.intro (okA_st (S := (uI S4 (171 + (x5).toNatClampNeg) 0 r3)) (n := 40) rfl g7) (And.intro (okB_row (S := (uI S4 (171 + (x5).toNatClampNeg) 0 r3)) (b := 171) (cnt := 20) (n := 3) rfl (inb_lt g8) rfl) (And.intro (okQ_st (S := (uI (uI S4 (171 + (x5).toNatClampNeg) 0 r3) (171 + (x5).toNatClampNeg) 1 (gI (uI S4 (171 + (x5).toNatClampNeg) 0 r3) 140 (r3).toNatClampNeg))) (k := 23) (n := 20) rfl rfl g8) (And.intro (okB_row (S := (uI (uI S4 (171 + (x5).toNatClampNeg) 0 r3) (171 + (x5).toNatClampNeg) 1 (gI (uI S4 (171 + (x5).toNatClampNeg) 0 r3) 140 (r3).toNatClampNeg))) (b := 171) (cnt := 20) (n := 3) rfl (inb_lt g8) rfl) (show J w (d + 3) m_W_writeRows (n0, z0, some (.int z.1), mk c z.2) 78 [some (.ref 138), none, some (.ref 170), some (.int r3), some (.int (x4 + (gI S4 141 (r3).toNatClampNeg))), some (.int (x5 + (1 : Int32)))] [] (mk c (uI (uI (uI S4 (171 + (x5).toNatClampNeg) 0 r3) (171 + (x5).toNatClampNeg) 1 (gI (uI S4 (171 + (x5).toNatClampNeg) 0 r3) 140 (r3).toNatClampNeg)) (171 + (x5).toNatClampNeg) 2 (x4 + (gI S4 141 (r3).toNatClampNeg)))) from ?_)))))))))))
          refine J.goto (tgt := 8) d_W_writeRows_78 rfl ?_
          refine J.mask [true, false, true, true, true, true] ?_
          exact ih (uI (uI (uI S4 (171 + (x5).toNatClampNeg) 0 r3) (171 + (x5).toNatClampNeg) 1 (gI (uI S4 (171 + (x5).toNatClampNeg) 0 r3) 140 (r3).toNatClampNeg)) (171 + (x5).toNatClampNeg) 2 (x4 + (gI S4 141 (r3).toNatClampNeg))) r3 (x4 + (gI S4 141 (r3).toNatClampNeg)) (x5 + (1 : Int32)) H
        · have H := ite_t H q6
          refine J.run b_W_writeRows_34_1 k_W_writeRows_34_1 rfl (show J w (d + 3) m_W_writeRows (n0, z0, some (.int z.1), mk c z.2) 36 [some (.ref 138), none, some (.ref 170), some (.int r3), some (.int x4), some (.int x5)] [.int x5] (mk c S4) from ?_)
          obtain rfl := some_e H
          exact J.iret d_W_writeRows_36 rfl rfl
theorem c_W_writeRows_170 (w : Wd) (d : Nat) (c : cx)   (S : hs) (x1 : Int32)  {z : Int32 × hs} (H : f_W_writeRows_170 S x1 = some z) : Cl w (d + 3) m_W_writeRows [.ref 138, .int x1, .ref 170] (mk c S) (some (.int z.1)) (mk c z.2) := by
  refine Cl.of (Nat.le_refl _) (Nat.le_refl _) (by decide +kernel) (Nat.le_of_ble_eq_true rfl) ?_
  unfold f_W_writeRows_170 at H
  generalize hN (mk c S) = n0
  generalize hZ (mk c S) = z0
  show J w (d + 3) m_W_writeRows (n0, z0, some (.int z.1), mk c z.2) 0 [some (.ref 138), some (.int x1), some (.ref 170), none, none, none] [] (mk c S)
  refine J.run b_W_writeRows_0_6 k_W_writeRows_0_6 rfl (show J w (d + 3) m_W_writeRows (n0, z0, some (.int z.1), mk c z.2) 8 [some (.ref 138), some (.int x1), some (.ref 170), some (.int x1), some (.int (0 : Int32)), some (.int (0 : Int32))] [] (mk c S) from ?_)
  refine J.mask [true, false, true, true, true, true] ?_
  refine lo_W_writeRows_170_8 w d c   1000 S x1 (0 : Int32) (0 : Int32) H
def b_X_prove_0_3 : List Ins := [(.aload_n 0, 0, 0, 0), (.getfield 10, 0, 0, 2), (.iload_n 1, 0, 0, 0)]
theorem k_X_prove_0_3 : bok m_X_prove 0 b_X_prove_0_3 = true := by decide +kernel
def b_X_prove_22_1 : List Ins := [(.iconst (-1), 0, 0, 0)]
theorem k_X_prove_22_1 : bok m_X_prove 22 b_X_prove_22_1 = true := by decide +kernel
def b_X_prove_11_3 : List Ins := [(.aload_n 0, 0, 0, 0), (.getfield 10, 0, 0, 2), (.iload_n 2, 0, 0, 0)]
theorem k_X_prove_11_3 : bok m_X_prove 11 b_X_prove_11_3 = true := by decide +kernel
def b_X_prove_24_6 : List Ins := [(.aload_n 0, 0, 0, 0), (.getfield 29, 0, 3, 2), (.aload_n 0, 0, 0, 0), (.getfield 10, 0, 0, 2), (.iconst (0), 0, 0, 0), (.iconst (-1), 0, 0, 0)]
theorem k_X_prove_24_6 : bok m_X_prove 24 b_X_prove_24_6 = true := by decide +kernel
def b_X_prove_37_3 : List Ins := [(.aload_n 0, 0, 0, 0), (.getfield 29, 0, 3, 2), (.iload_n 2, 0, 0, 0)]
theorem k_X_prove_37_3 : bok m_X_prove 37 b_X_prove_37_3 = true := by decide +kernel
def b_X_prove_45_3 : List Ins := [(.aload_n 0, 0, 0, 0), (.getfield 29, 0, 3, 2), (.iload_n 1, 0, 0, 0)]
theorem k_X_prove_45_3 : bok m_X_prove 45 b_X_prove_45_3 = true := by decide +kernel
def b_X_prove_53_1 : List Ins := [(.ldc 170, 0, 1000000, 0)]
theorem k_X_prove_53_1 : bok m_X_prove 53 b_X_prove_53_1 = true := by decide +kernel
def b_X_prove_61_6 : List Ins := [(.aload_n 0, 0, 0, 0), (.aload_n 0, 0, 0, 0), (.getfield 29, 0, 3, 2), (.iload_n 1, 0, 0, 0), (.aload_n 0, 0, 0, 0), (.getfield 42, 0, 5, 2)]
theorem k_X_prove_61_6 : bok m_X_prove 61 b_X_prove_61_6 = true := by decide +kernel
def b_X_prove_74_3 : List Ins := [(.putfield 45, 0, 6, 0), (.aload_n 0, 0, 0, 0), (.getfield 45, 0, 6, 0)]
theorem k_X_prove_74_3 : bok m_X_prove 74 b_X_prove_74_3 = true := by decide +kernel
def b_X_prove_58_1 : List Ins := [(.bipush (-3), 0, 0, 0)]
theorem k_X_prove_58_1 : bok m_X_prove 58 b_X_prove_58_1 = true := by decide +kernel
theorem d_X_prove_5 : decode m_X_prove.2.1 5 = .ok (.invokevirtual 156, 3) := by decide +kernel
theorem d_X_prove_8 : decode m_X_prove.2.1 8 = .ok (.ifCond .eq (14), 3) := by decide +kernel
theorem d_X_prove_23 : decode m_X_prove.2.1 23 = .ok (.ireturn, 1) := by decide +kernel
theorem d_X_prove_16 : decode m_X_prove.2.1 16 = .ok (.invokevirtual 68, 3) := by decide +kernel
theorem d_X_prove_19 : decode m_X_prove.2.1 19 = .ok (.ifCond .ne (5), 3) := by decide +kernel
theorem d_X_prove_34 : decode m_X_prove.2.1 34 = .ok (.invokevirtual 159, 3) := by decide +kernel
theorem d_X_prove_42 : decode m_X_prove.2.1 42 = .ok (.invokevirtual 163, 3) := by decide +kernel
theorem d_X_prove_50 : decode m_X_prove.2.1 50 = .ok (.invokevirtual 167, 3) := by decide +kernel
theorem d_X_prove_55 : decode m_X_prove.2.1 55 = .ok (.if_icmp .ne (6), 3) := by decide +kernel
theorem d_X_prove_71 : decode m_X_prove.2.1 71 = .ok (.invokevirtual 226, 3) := by decide +kernel
theorem d_X_prove_81 : decode m_X_prove.2.1 81 = .ok (.ireturn, 1) := by decide +kernel
theorem d_X_prove_60 : decode m_X_prove.2.1 60 = .ok (.ireturn, 1) := by decide +kernel
def f_X_prove  (S : hs) (x1 : Int32) (x2 : Int32) : Option (Int32 × hs) := bd (f_T_hasCourse  S x1) fun r1 S2 => (if r1 = 0 then some ((-1 : Int32), S2) else bd (f_T_hasCrossing  S2 x2) fun r5 S6 => (if r5 = 0 then some ((-1 : Int32), S6) else bd (f_W_prepare_34  S6 (0 : Int32) (-1 : Int32)) fun r9 S10 => bd (f_W_measureTo  S10 x2) fun r12 S13 => bd (f_W_leftFrom  S13 x1) fun r15 S16 => (if r15 = (1000000 : Int32) then some ((-3 : Int32), S16) else bd (f_W_writeRows_170  S16 x1) fun r19 S20 => some ((gI (uI S20 33 6 r19) 33 6), (uI S20 33 6 r19)))))
theorem c_X_prove (w : Wd) (d : Nat) (c : cx)   (S : hs) (x1 : Int32) (x2 : Int32)  {z : Int32 × hs} (H : f_X_prove S x1 x2 = some z) : Cl w (d + 7) m_X_prove [.ref 33, .int x1, .int x2] (mk c S) (some (.int z.1)) (mk c z.2) := by
  refine Cl.of (Nat.le_refl _) (Nat.le_refl _) (by decide +kernel) (Nat.le_of_ble_eq_true rfl) ?_
  unfold f_X_prove at H
  generalize hN (mk c S) = n0
  generalize hZ (mk c S) = z0
  show J w (d + 7) m_X_prove (n0, z0, some (.int z.1), mk c z.2) 0 [some (.ref 33), some (.int x1), some (.int x2)] [] (mk c S)
  refine J.run b_X_prove_0_3 k_X_prove_0_3 rfl (And.intro (okO_st (S := S) rfl) (show J w (d + 7) m_X_prove (n0, z0, some (.int z.1), mk c z.2) 5 [some (.ref 33), some (.int x1), some (.int x2)] [.int x1, .ref 34] (mk c S) from ?_))
  obtain ⟨r1, S2, h3, H⟩ := bd_e H
  refine J.callV (y := m_T_hasCourse) (av := [.int x1]) (rest := []) (q := 34) l_X_156 d_X_prove_5 (isC_st rfl rfl) (c_T_hasCourse w (d + 3) c  S x1 h3) rfl (Nat.le_of_ble_eq_true rfl) ⟨Nat.le_refl _, Nat.le_refl _⟩ (show J w (d + 7) m_X_prove (n0, z0, some (.int z.1), mk c z.2) 8 [some (.ref 33), some (.int x1), some (.int x2)] [.int r1] (mk c S2) from ?_)
  refine J.zeq (tgt := 22) d_X_prove_8 rfl (fun q4 => ?_) (fun q4 => ?_)
  · have H := ite_t H q4
    refine J.run b_X_prove_22_1 k_X_prove_22_1 rfl (show J w (d + 7) m_X_prove (n0, z0, some (.int z.1), mk c z.2) 23 [some (.ref 33), some (.int x1), some (.int x2)] [.int (-1 : Int32)] (mk c S2) from ?_)
    obtain rfl := some_e H
    exact J.iret d_X_prove_23 rfl rfl
  · have H := ite_f H q4
    refine J.run b_X_prove_11_3 k_X_prove_11_3 rfl (And.intro (okO_st (S := S2) rfl) (show J w (d + 7) m_X_prove (n0, z0, some (.int z.1), mk c z.2) 16 [some (.ref 33), some (.int x1), some (.int x2)] [.int x2, .ref 34] (mk c S2) from ?_))
    obtain ⟨r5, S6, h7, H⟩ := bd_e H
    refine J.callV (y := m_T_hasCrossing) (av := [.int x2]) (rest := []) (q := 34) l_X_68 d_X_prove_16 (isC_st rfl rfl) (c_T_hasCrossing w (d + 5) c  S2 x2 h7) rfl (Nat.le_of_ble_eq_true rfl) ⟨Nat.le_refl _, Nat.le_refl _⟩ (show J w (d + 7) m_X_prove (n0, z0, some (.int z.1), mk c z.2) 19 [some (.ref 33), some (.int x1), some (.int x2)] [.int r5] (mk c S6) from ?_)
    refine J.zne (tgt := 24) d_X_prove_19 rfl (fun q8 => ?_) (fun q8 => ?_)
    · have H := ite_f H q8
      refine J.run b_X_prove_24_6 k_X_prove_24_6 rfl (And.intro (okO_st (S := S6) rfl) (And.intro (okO_st (S := S6) rfl) (show J w (d + 7) m_X_prove (n0, z0, some (.int z.1), mk c z.2) 34 [some (.ref 33), some (.int x1), some (.int x2)] [.int (-1 : Int32), .int (0 : Int32), .ref 34, .ref 138] (mk c S6) from ?_)))
      obtain ⟨r9, S10, h11, H⟩ := bd_e H
      refine J.callV (y := m_W_prepare) (av := [.ref 34, .int (0 : Int32), .int (-1 : Int32)]) (rest := []) (q := 138) l_X_159 d_X_prove_34 (isC_st rfl rfl) (c_W_prepare_34 w (d + 0) c  S6 (0 : Int32) (-1 : Int32) h11) rfl (Nat.le_of_ble_eq_true rfl) ⟨Nat.le_refl _, Nat.le_refl _⟩ (show J w (d + 7) m_X_prove (n0, z0, some (.int z.1), mk c z.2) 37 [some (.ref 33), some (.int x1), some (.int x2)] [] (mk c S10) from ?_)
      refine J.run b_X_prove_37_3 k_X_prove_37_3 rfl (And.intro (okO_st (S := S10) rfl) (show J w (d + 7) m_X_prove (n0, z0, some (.int z.1), mk c z.2) 42 [some (.ref 33), some (.int x1), some (.int x2)] [.int x2, .ref 138] (mk c S10) from ?_))
      obtain ⟨r12, S13, h14, H⟩ := bd_e H
      refine J.callV (y := m_W_measureTo) (av := [.int x2]) (rest := []) (q := 138) l_X_163 d_X_prove_42 (isC_st rfl rfl) (c_W_measureTo w (d + 2) c  S10 x2 h14) rfl (Nat.le_of_ble_eq_true rfl) ⟨Nat.le_refl _, Nat.le_refl _⟩ (show J w (d + 7) m_X_prove (n0, z0, some (.int z.1), mk c z.2) 45 [some (.ref 33), some (.int x1), some (.int x2)] [] (mk c S13) from ?_)
      refine J.run b_X_prove_45_3 k_X_prove_45_3 rfl (And.intro (okO_st (S := S13) rfl) (show J w (d + 7) m_X_prove (n0, z0, some (.int z.1), mk c z.2) 50 [some (.ref 33), some (.int x1), some (.int x2)] [.int x1, .ref 138] (mk c S13) from ?_))
      obtain ⟨r15, S16, h17, H⟩ := bd_e H
      refine J.callV (y := m_W_leftFrom) (av := [.int x1]) (rest := []) (q := 138) l_X_167 d_X_prove_50 (isC_st rfl rfl) (c_W_leftFrom w (d + 5) c  S13 x1 h17) rfl (Nat.le_of_ble_eq_true rfl) ⟨Nat.le_refl _, Nat.le_refl _⟩ (show J w (d + 7) m_X_prove (n0, z0, some (.int z.1), mk c z.2) 53 [some (.ref 33), some (.int x1), some (.int x2)] [.int r15] (mk c S16) from ?_)
      refine J.run b_X_prove_53_1 k_X_prove_53_1 rfl (show J w (d + 7) m_X_prove (n0, z0, some (.int z.1), mk c z.2) 55 [some (.ref 33), some (.int x1), some (.int x2)] [.int (1000000 : Int32), .int r15] (mk c S16) from ?_)
      refine J.cne (tgt := 61) d_X_prove_55 rfl (fun q18 => ?_) (fun q18 => ?_)
      · have H := ite_f H q18
        refine J.run b_X_prove_61_6 k_X_prove_61_6 rfl (And.intro (okO_st (S := S16) rfl) (And.intro (okO_st (S := S16) rfl) (show J w (d + 7) m_X_prove (n0, z0, some (.int z.1), mk c z.2) 71 [some (.ref 33), some (.int x1), some (.int x2)] [.ref 170, .int x1, .ref 138, .ref 33] (mk c S16) from ?_)))
        obtain ⟨r19, S20, h21, H⟩ := bd_e H
        refine J.callV (y := m_W_writeRows) (av := [.int x1, .ref 170]) (rest := [.ref 33]) (q := 138) l_X_226 d_X_prove_71 (isC_st rfl rfl) (c_W_writeRows_170 w (d + 3) c  S16 x1 h21) rfl (Nat.le_of_ble_eq_true rfl) ⟨Nat.le_refl _, Nat.le_refl _⟩ (show J w (d + 7) m_X_prove (n0, z0, some (.int z.1), mk c z.2) 74 [some (.ref 33), some (.int x1), some (.int x2)] [.int r19, .ref 33] (mk c S20) from ?_)
        refine J.run b_X_prove_74_3 k_X_prove_74_3 rfl (And.intro (okO_st (S := S20) rfl) (And.intro (okO_st (S := (uI S20 33 6 r19)) rfl) (show J w (d + 7) m_X_prove (n0, z0, some (.int z.1), mk c z.2) 81 [some (.ref 33), some (.int x1), some (.int x2)] [.int (gI (uI S20 33 6 r19) 33 6)] (mk c (uI S20 33 6 r19)) from ?_)))
        obtain rfl := some_e H
        exact J.iret d_X_prove_81 rfl rfl
      · have H := ite_t H q18
        refine J.run b_X_prove_58_1 k_X_prove_58_1 rfl (show J w (d + 7) m_X_prove (n0, z0, some (.int z.1), mk c z.2) 60 [some (.ref 33), some (.int x1), some (.int x2)] [.int (-3 : Int32)] (mk c S16) from ?_)
        obtain rfl := some_e H
        exact J.iret d_X_prove_60 rfl rfl
    · have H := ite_t H q8
      refine J.run b_X_prove_22_1 k_X_prove_22_1 rfl (show J w (d + 7) m_X_prove (n0, z0, some (.int z.1), mk c z.2) 23 [some (.ref 33), some (.int x1), some (.int x2)] [.int (-1 : Int32)] (mk c S6) from ?_)
      obtain rfl := some_e H
      exact J.iret d_X_prove_23 rfl rfl
def b_X_hasRow_0_1 : List Ins := [(.iload_n 1, 0, 0, 0)]
theorem k_X_hasRow_0_1 : bok m_X_hasRow 0 b_X_hasRow_0_1 = true := by decide +kernel
def b_X_hasRow_31_1 : List Ins := [(.iconst (0), 0, 0, 0)]
theorem k_X_hasRow_31_1 : bok m_X_hasRow 31 b_X_hasRow_31_1 = true := by decide +kernel
def b_X_hasRow_4_3 : List Ins := [(.iload_n 1, 0, 0, 0), (.aload_n 0, 0, 0, 0), (.getfield 45, 0, 6, 0)]
theorem k_X_hasRow_4_3 : bok m_X_hasRow 4 b_X_hasRow_4_3 = true := by decide +kernel
def b_X_hasRow_12_2 : List Ins := [(.iload_n 1, 0, 0, 0), (.bipush (20), 0, 0, 0)]
theorem k_X_hasRow_12_2 : bok m_X_hasRow 12 b_X_hasRow_12_2 = true := by decide +kernel
def b_X_hasRow_18_1 : List Ins := [(.iload_n 2, 0, 0, 0)]
theorem k_X_hasRow_18_1 : bok m_X_hasRow 18 b_X_hasRow_18_1 = true := by decide +kernel
def b_X_hasRow_22_2 : List Ins := [(.iload_n 2, 0, 0, 0), (.iconst (3), 0, 0, 0)]
theorem k_X_hasRow_22_2 : bok m_X_hasRow 22 b_X_hasRow_22_2 = true := by decide +kernel
def b_X_hasRow_27_1 : List Ins := [(.iconst (1), 0, 0, 0)]
theorem k_X_hasRow_27_1 : bok m_X_hasRow 27 b_X_hasRow_27_1 = true := by decide +kernel
theorem d_X_hasRow_1 : decode m_X_hasRow.2.1 1 = .ok (.ifCond .lt (30), 3) := by decide +kernel
theorem d_X_hasRow_32 : decode m_X_hasRow.2.1 32 = .ok (.ireturn, 1) := by decide +kernel
theorem d_X_hasRow_9 : decode m_X_hasRow.2.1 9 = .ok (.if_icmp .ge (22), 3) := by decide +kernel
theorem d_X_hasRow_15 : decode m_X_hasRow.2.1 15 = .ok (.if_icmp .ge (16), 3) := by decide +kernel
theorem d_X_hasRow_19 : decode m_X_hasRow.2.1 19 = .ok (.ifCond .lt (12), 3) := by decide +kernel
theorem d_X_hasRow_24 : decode m_X_hasRow.2.1 24 = .ok (.if_icmp .ge (7), 3) := by decide +kernel
theorem d_X_hasRow_28 : decode m_X_hasRow.2.1 28 = .ok (.goto (4), 3) := by decide +kernel
def f_X_hasRow  (S : hs) (x1 : Int32) (x2 : Int32) : Option (Int32 × hs) := (if x1 < 0 then some ((0 : Int32), S) else (if (gI S 33 6) ≤ x1 then some ((0 : Int32), S) else (if (20 : Int32) ≤ x1 then some ((0 : Int32), S) else (if x2 < 0 then some ((0 : Int32), S) else (if (3 : Int32) ≤ x2 then some ((0 : Int32), S) else some ((1 : Int32), S))))))
theorem c_X_hasRow (w : Wd) (d : Nat) (c : cx)   (S : hs) (x1 : Int32) (x2 : Int32)  {z : Int32 × hs} (H : f_X_hasRow S x1 x2 = some z) : Cl w (d + 1) m_X_hasRow [.ref 33, .int x1, .int x2] (mk c S) (some (.int z.1)) (mk c z.2) := by
  refine Cl.of (Nat.le_refl _) (Nat.le_refl _) (by decide +kernel) (Nat.le_of_ble_eq_true rfl) ?_
  unfold f_X_hasRow at H
  generalize hN (mk c S) = n0
  generalize hZ (mk c S) = z0
  show J w (d + 1) m_X_hasRow (n0, z0, some (.int z.1), mk c z.2) 0 [some (.ref 33), some (.int x1), some (.int x2)] [] (mk c S)
  refine J.run b_X_hasRow_0_1 k_X_hasRow_0_1 rfl (show J w (d + 1) m_X_hasRow (n0, z0, some (.int z.1), mk c z.2) 1 [some (.ref 33), some (.int x1), some (.int x2)] [.int x1] (mk c S) from ?_)
  refine J.zlt (tgt := 31) d_X_hasRow_1 rfl (fun q1 => ?_) (fun q1 => ?_)
  · have H := ite_t H q1
    refine J.run b_X_hasRow_31_1 k_X_hasRow_31_1 rfl (show J w (d + 1) m_X_hasRow (n0, z0, some (.int z.1), mk c z.2) 32 [some (.ref 33), some (.int x1), some (.int x2)] [.int (0 : Int32)] (mk c S) from ?_)
    obtain rfl := some_e H
    exact J.nret d_X_hasRow_32 rfl rfl rfl
  · have H := ite_f H q1
    refine J.run b_X_hasRow_4_3 k_X_hasRow_4_3 rfl (And.intro (okO_st (S := S) rfl) (show J w (d + 1) m_X_hasRow (n0, z0, some (.int z.1), mk c z.2) 9 [some (.ref 33), some (.int x1), some (.int x2)] [.int (gI S 33 6), .int x1] (mk c S) from ?_))
    refine J.cge (tgt := 31) d_X_hasRow_9 rfl (fun q2 => ?_) (fun q2 => ?_)
    · have H := ite_t H q2
      refine J.run b_X_hasRow_31_1 k_X_hasRow_31_1 rfl (show J w (d + 1) m_X_hasRow (n0, z0, some (.int z.1), mk c z.2) 32 [some (.ref 33), some (.int x1), some (.int x2)] [.int (0 : Int32)] (mk c S) from ?_)
      obtain rfl := some_e H
      exact J.nret d_X_hasRow_32 rfl rfl rfl
    · have H := ite_f H q2
      refine J.run b_X_hasRow_12_2 k_X_hasRow_12_2 rfl (show J w (d + 1) m_X_hasRow (n0, z0, some (.int z.1), mk c z.2) 15 [some (.ref 33), some (.int x1), some (.int x2)] [.int (20 : Int32), .int x1] (mk c S) from ?_)
      refine J.cge (tgt := 31) d_X_hasRow_15 rfl (fun q3 => ?_) (fun q3 => ?_)
      · have H := ite_t H q3
        refine J.run b_X_hasRow_31_1 k_X_hasRow_31_1 rfl (show J w (d + 1) m_X_hasRow (n0, z0, some (.int z.1), mk c z.2) 32 [some (.ref 33), some (.int x1), some (.int x2)] [.int (0 : Int32)] (mk c S) from ?_)
        obtain rfl := some_e H
        exact J.nret d_X_hasRow_32 rfl rfl rfl
      · have H := ite_f H q3
        refine J.run b_X_hasRow_18_1 k_X_hasRow_18_1 rfl (show J w (d + 1) m_X_hasRow (n0, z0, some (.int z.1), mk c z.2) 19 [some (.ref 33), some (.int x1), some (.int x2)] [.int x2] (mk c S) from ?_)
        refine J.zlt (tgt := 31) d_X_hasRow_19 rfl (fun q4 => ?_) (fun q4 => ?_)
        · have H := ite_t H q4
          refine J.run b_X_hasRow_31_1 k_X_hasRow_31_1 rfl (show J w (d + 1) m_X_hasRow (n0, z0, some (.int z.1), mk c z.2) 32 [some (.ref 33), some (.int x1), some (.int x2)] [.int (0 : Int32)] (mk c S) from ?_)
          obtain rfl := some_e H
          exact J.nret d_X_hasRow_32 rfl rfl rfl
        · have H := ite_f H q4
          refine J.run b_X_hasRow_22_2 k_X_hasRow_22_2 rfl (show J w (d + 1) m_X_hasRow (n0, z0, some (.int z.1), mk c z.2) 24 [some (.ref 33), some (.int x1), some (.int x2)] [.int (3 : Int32), .int x2] (mk c S) from ?_)
          refine J.cge (tgt := 31) d_X_hasRow_24 rfl (fun q5 => ?_) (fun q5 => ?_)
          · have H := ite_t H q5
            refine J.run b_X_hasRow_31_1 k_X_hasRow_31_1 rfl (show J w (d + 1) m_X_hasRow (n0, z0, some (.int z.1), mk c z.2) 32 [some (.ref 33), some (.int x1), some (.int x2)] [.int (0 : Int32)] (mk c S) from ?_)
            obtain rfl := some_e H
            exact J.nret d_X_hasRow_32 rfl rfl rfl
          · have H := ite_f H q5
            refine J.run b_X_hasRow_27_1 k_X_hasRow_27_1 rfl (show J w (d + 1) m_X_hasRow (n0, z0, some (.int z.1), mk c z.2) 28 [some (.ref 33), some (.int x1), some (.int x2)] [.int (1 : Int32)] (mk c S) from ?_)
            refine J.goto (tgt := 32) d_X_hasRow_28 rfl ?_
            obtain rfl := some_e H
            exact J.nret d_X_hasRow_32 rfl rfl rfl
def b_X_row_0_3 : List Ins := [(.aload_n 0, 0, 0, 0), (.iload_n 1, 0, 0, 0), (.iload_n 2, 0, 0, 0)]
theorem k_X_row_0_3 : bok m_X_row 0 b_X_row_0_3 = true := by decide +kernel
def b_X_row_20_1 : List Ins := [(.bipush (-9), 0, 0, 0)]
theorem k_X_row_20_1 : bok m_X_row 20 b_X_row_20_1 = true := by decide +kernel
def b_X_row_9_6 : List Ins := [(.aload_n 0, 0, 0, 0), (.getfield 42, 0, 5, 2), (.iload_n 1, 0, 0, 0), (.aaload, 0, 0, 0), (.iload_n 2, 0, 0, 0), (.iaload, 0, 0, 0)]
theorem k_X_row_9_6 : bok m_X_row 9 b_X_row_9_6 = true := by decide +kernel
theorem d_X_row_3 : decode m_X_row.2.1 3 = .ok (.invokevirtual 230, 3) := by decide +kernel
theorem d_X_row_6 : decode m_X_row.2.1 6 = .ok (.ifCond .eq (14), 3) := by decide +kernel
theorem d_X_row_22 : decode m_X_row.2.1 22 = .ok (.ireturn, 1) := by decide +kernel
theorem d_X_row_17 : decode m_X_row.2.1 17 = .ok (.goto (5), 3) := by decide +kernel
def f_X_row  (S : hs) (x1 : Int32) (x2 : Int32) : Option (Int32 × hs) := bd (f_X_hasRow  S x1 x2) fun r1 S2 => (if r1 = 0 then some ((-9 : Int32), S2) else ck (inb x1 20) (ck (inb x2 3) (some ((gI S2 (171 + (x1).toNatClampNeg) (x2).toNatClampNeg), S2))))
theorem c_X_row (w : Wd) (d : Nat) (c : cx)   (S : hs) (x1 : Int32) (x2 : Int32)  {z : Int32 × hs} (H : f_X_row S x1 x2 = some z) : Cl w (d + 2) m_X_row [.ref 33, .int x1, .int x2] (mk c S) (some (.int z.1)) (mk c z.2) := by
  refine Cl.of (Nat.le_refl _) (Nat.le_refl _) (by decide +kernel) (Nat.le_of_ble_eq_true rfl) ?_
  unfold f_X_row at H
  generalize hN (mk c S) = n0
  generalize hZ (mk c S) = z0
  show J w (d + 2) m_X_row (n0, z0, some (.int z.1), mk c z.2) 0 [some (.ref 33), some (.int x1), some (.int x2)] [] (mk c S)
  refine J.run b_X_row_0_3 k_X_row_0_3 rfl (show J w (d + 2) m_X_row (n0, z0, some (.int z.1), mk c z.2) 3 [some (.ref 33), some (.int x1), some (.int x2)] [.int x2, .int x1, .ref 33] (mk c S) from ?_)
  obtain ⟨r1, S2, h3, H⟩ := bd_e H
  refine J.callV (y := m_X_hasRow) (av := [.int x1, .int x2]) (rest := []) (q := 33) l_X_230 d_X_row_3 (isC_st rfl rfl) (c_X_hasRow w (d + 0) c  S x1 x2 h3) rfl (Nat.le_of_ble_eq_true rfl) ⟨Nat.le_refl _, Nat.le_refl _⟩ (show J w (d + 2) m_X_row (n0, z0, some (.int z.1), mk c z.2) 6 [some (.ref 33), some (.int x1), some (.int x2)] [.int r1] (mk c S2) from ?_)
  refine J.zeq (tgt := 20) d_X_row_6 rfl (fun q4 => ?_) (fun q4 => ?_)
  · have H := ite_t H q4
    refine J.run b_X_row_20_1 k_X_row_20_1 rfl (show J w (d + 2) m_X_row (n0, z0, some (.int z.1), mk c z.2) 22 [some (.ref 33), some (.int x1), some (.int x2)] [.int (-9 : Int32)] (mk c S2) from ?_)
    obtain rfl := some_e H
    exact J.iret d_X_row_22 rfl rfl
  · have H := ite_f H q4
    obtain ⟨g5, H⟩ := ck_e H
    obtain ⟨g6, H⟩ := ck_e H
    refine J.run b_X_row_9_6 k_X_row_9_6 rfl (And.intro (okO_st (S := S2) rfl) (And.intro (okQ_st (S := S2) (k := 23) (n := 20) rfl rfl g5) (And.intro (okA_row (S := S2) (b := 171) (cnt := 20) (n := 3) rfl (inb_lt g5) g6) (show J w (d + 2) m_X_row (n0, z0, some (.int z.1), mk c z.2) 17 [some (.ref 33), some (.int x1), some (.int x2)] [.int (gI S2 (171 + (x1).toNatClampNeg) (x2).toNatClampNeg)] (mk c S2) from ?_))))
    refine J.goto (tgt := 22) d_X_row_17 rfl ?_
    obtain rfl := some_e H
    exact J.iret d_X_row_22 rfl rfl
def b_X_alterRow_0_3 : List Ins := [(.aload_n 0, 0, 0, 0), (.iload_n 1, 0, 0, 0), (.iload_n 2, 0, 0, 0)]
theorem k_X_alterRow_0_3 : bok m_X_alterRow 0 b_X_alterRow_0_3 = true := by decide +kernel
def b_X_alterRow_12_15 : List Ins := [(.aload_n 0, 0, 0, 0), (.getfield 42, 0, 5, 2), (.iload_n 1, 0, 0, 0), (.aaload, 0, 0, 0), (.iload_n 2, 0, 0, 0), (.iaload, 0, 0, 0), (.istore 4, 0, 0, 0), (.aload_n 0, 0, 0, 0), (.getfield 42, 0, 5, 2), (.iload_n 1, 0, 0, 0), (.aaload, 0, 0, 0), (.iload_n 2, 0, 0, 0), (.iload_n 3, 0, 0, 0), (.iastore, 0, 0, 0), (.iload 4, 0, 0, 0)]
theorem k_X_alterRow_12_15 : bok m_X_alterRow 12 b_X_alterRow_12_15 = true := by decide +kernel
def b_X_alterRow_9_1 : List Ins := [(.bipush (-9), 0, 0, 0)]
theorem k_X_alterRow_9_1 : bok m_X_alterRow 9 b_X_alterRow_9_1 = true := by decide +kernel
theorem d_X_alterRow_3 : decode m_X_alterRow.2.1 3 = .ok (.invokevirtual 230, 3) := by decide +kernel
theorem d_X_alterRow_6 : decode m_X_alterRow.2.1 6 = .ok (.ifCond .ne (6), 3) := by decide +kernel
theorem d_X_alterRow_33 : decode m_X_alterRow.2.1 33 = .ok (.ireturn, 1) := by decide +kernel
theorem d_X_alterRow_11 : decode m_X_alterRow.2.1 11 = .ok (.ireturn, 1) := by decide +kernel
def f_X_alterRow  (S : hs) (x1 : Int32) (x2 : Int32) (x3 : Int32) : Option (Int32 × hs) := bd (f_X_hasRow  S x1 x2) fun r1 S2 => (if r1 = 0 then some ((-9 : Int32), S2) else ck (inb x1 20) (ck (inb x2 3) (some ((gI S2 (171 + (x1).toNatClampNeg) (x2).toNatClampNeg), (uI S2 (171 + (x1).toNatClampNeg) (x2).toNatClampNeg x3)))))
theorem c_X_alterRow (w : Wd) (d : Nat) (c : cx)   (S : hs) (x1 : Int32) (x2 : Int32) (x3 : Int32)  {z : Int32 × hs} (H : f_X_alterRow S x1 x2 x3 = some z) : Cl w (d + 2) m_X_alterRow [.ref 33, .int x1, .int x2, .int x3] (mk c S) (some (.int z.1)) (mk c z.2) := by
  refine Cl.of (Nat.le_refl _) (Nat.le_refl _) (by decide +kernel) (Nat.le_of_ble_eq_true rfl) ?_
  unfold f_X_alterRow at H
  generalize hN (mk c S) = n0
  generalize hZ (mk c S) = z0
  show J w (d + 2) m_X_alterRow (n0, z0, some (.int z.1), mk c z.2) 0 [some (.ref 33), some (.int x1), some (.int x2), some (.int x3), none] [] (mk c S)
  refine J.run b_X_alterRow_0_3 k_X_alterRow_0_3 rfl (show J w (d + 2) m_X_alterRow (n0, z0, some (.int z.1), mk c z.2) 3 [some (.ref 33), some (.int x1), some (.int x2), some (.int x3), none] [.int x2, .int x1, .ref 33] (mk c S) from ?_)
  obtain ⟨r1, S2, h3, H⟩ := bd_e H
  refine J.callV (y := m_X_hasRow) (av := [.int x1, .int x2]) (rest := []) (q := 33) l_X_230 d_X_alterRow_3 (isC_st rfl rfl) (c_X_hasRow w (d + 0) c  S x1 x2 h3) rfl (Nat.le_of_ble_eq_true rfl) ⟨Nat.le_refl _, Nat.le_refl _⟩ (show J w (d + 2) m_X_alterRow (n0, z0, some (.int z.1), mk c z.2) 6 [some (.ref 33), some (.int x1), some (.int x2), some (.int x3), none] [.int r1] (mk c S2) from ?_)
  refine J.zne (tgt := 12) d_X_alterRow_6 rfl (fun q4 => ?_) (fun q4 => ?_)
  · have H := ite_f H q4
    obtain ⟨g5, H⟩ := ck_e H
    obtain ⟨g6, H⟩ := ck_e H
    refine J.run b_X_alterRow_12_15 k_X_alterRow_12_15 rfl (And.intro (okO_st (S := S2) rfl) (And.intro (okQ_st (S := S2) (k := 23) (n := 20) rfl rfl g5) (And.intro (okA_row (S := S2) (b := 171) (cnt := 20) (n := 3) rfl (inb_lt g5) g6) (And.intro (okO_st (S := S2) rfl) (And.intro (okQ_st (S := S2) (k := 23) (n := 20) rfl rfl g5) (And.intro (okB_row (S := S2) (b := 171) (cnt := 20) (n := 3) rfl (inb_lt g5) g6) (show J w (d + 2) m_X_alterRow (n0, z0, some (.int z.1), mk c z.2) 33 [some (.ref 33), some (.int x1), some (.int x2), some (.int x3), some (.int (gI S2 (171 + (x1).toNatClampNeg) (x2).toNatClampNeg))] [.int (gI S2 (171 + (x1).toNatClampNeg) (x2).toNatClampNeg)] (mk c (uI S2 (171 + (x1).toNatClampNeg) (x2).toNatClampNeg x3)) from ?_)))))))
    obtain rfl := some_e H
    exact J.iret d_X_alterRow_33 rfl rfl
  · have H := ite_t H q4
    refine J.run b_X_alterRow_9_1 k_X_alterRow_9_1 rfl (show J w (d + 2) m_X_alterRow (n0, z0, some (.int z.1), mk c z.2) 11 [some (.ref 33), some (.int x1), some (.int x2), some (.int x3), none] [.int (-9 : Int32)] (mk c S2) from ?_)
    obtain rfl := some_e H
    exact J.iret d_X_alterRow_11 rfl rfl
def b_X_judge_0_3 : List Ins := [(.aload_n 0, 0, 0, 0), (.getfield 10, 0, 0, 2), (.iload_n 1, 0, 0, 0)]
theorem k_X_judge_0_3 : bok m_X_judge 0 b_X_judge_0_3 = true := by decide +kernel
def b_X_judge_13_6 : List Ins := [(.iload_n 1, 0, 0, 0), (.istore_n 2, 0, 0, 0), (.iconst (0), 0, 0, 0), (.istore_n 3, 0, 0, 0), (.iconst (0), 0, 0, 0), (.istore 4, 0, 0, 0)]
theorem k_X_judge_13_6 : bok m_X_judge 13 b_X_judge_13_6 = true := by decide +kernel
def b_X_judge_20_3 : List Ins := [(.iload 4, 0, 0, 0), (.aload_n 0, 0, 0, 0), (.getfield 45, 0, 6, 0)]
theorem k_X_judge_20_3 : bok m_X_judge 20 b_X_judge_20_3 = true := by decide +kernel
def b_X_judge_134_1 : List Ins := [(.iconst (0), 0, 0, 0)]
theorem k_X_judge_134_1 : bok m_X_judge 134 b_X_judge_134_1 = true := by decide +kernel
def b_X_judge_29_2 : List Ins := [(.iload 4, 0, 0, 0), (.bipush (20), 0, 0, 0)]
theorem k_X_judge_29_2 : bok m_X_judge 29 b_X_judge_29_2 = true := by decide +kernel
def b_X_judge_36_13 : List Ins := [(.aload_n 0, 0, 0, 0), (.getfield 42, 0, 5, 2), (.iload 4, 0, 0, 0), (.aaload, 0, 0, 0), (.astore 5, 0, 0, 0), (.aload 5, 0, 0, 0), (.iconst (0), 0, 0, 0), (.iaload, 0, 0, 0), (.istore 6, 0, 0, 0), (.aload_n 0, 0, 0, 0), (.getfield 10, 0, 0, 2), (.iload_n 2, 0, 0, 0), (.iload 6, 0, 0, 0)]
theorem k_X_judge_36_13 : bok m_X_judge 36 b_X_judge_36_13 = true := by decide +kernel
def b_X_judge_61_1 : List Ins := [(.iconst (-1), 0, 0, 0)]
theorem k_X_judge_61_1 : bok m_X_judge 61 b_X_judge_61_1 = true := by decide +kernel
def b_X_judge_79_3 : List Ins := [(.iload 4, 0, 0, 0), (.iconst (1), 0, 0, 0), (.iadd, 0, 0, 0)]
theorem k_X_judge_79_3 : bok m_X_judge 79 b_X_judge_79_3 = true := by decide +kernel
def b_X_judge_65_5 : List Ins := [(.aload_n 0, 0, 0, 0), (.getfield 10, 0, 0, 2), (.iload_n 2, 0, 0, 0), (.iload 6, 0, 0, 0), (.iconst (0), 0, 0, 0)]
theorem k_X_judge_65_5 : bok m_X_judge 65 b_X_judge_65_5 = true := by decide +kernel
def b_X_judge_84_4 : List Ins := [(.iload_n 3, 0, 0, 0), (.aload_n 0, 0, 0, 0), (.getfield 10, 0, 0, 2), (.iload 6, 0, 0, 0)]
theorem k_X_judge_84_4 : bok m_X_judge 84 b_X_judge_84_4 = true := by decide +kernel
def b_X_judge_94_8 : List Ins := [(.iadd, 0, 0, 0), (.istore_n 3, 0, 0, 0), (.aload 5, 0, 0, 0), (.iconst (1), 0, 0, 0), (.iaload, 0, 0, 0), (.aload_n 0, 0, 0, 0), (.getfield 10, 0, 0, 2), (.iload 6, 0, 0, 0)]
theorem k_X_judge_94_8 : bok m_X_judge 94 b_X_judge_94_8 = true := by decide +kernel
def b_X_judge_120_3 : List Ins := [(.iload 4, 0, 0, 0), (.iconst (1), 0, 0, 0), (.iadd, 0, 0, 0)]
theorem k_X_judge_120_3 : bok m_X_judge 120 b_X_judge_120_3 = true := by decide +kernel
def b_X_judge_112_4 : List Ins := [(.aload 5, 0, 0, 0), (.iconst (2), 0, 0, 0), (.iaload, 0, 0, 0), (.iload_n 3, 0, 0, 0)]
theorem k_X_judge_112_4 : bok m_X_judge 112 b_X_judge_112_4 = true := by decide +kernel
def b_X_judge_125_3 : List Ins := [(.iload 6, 0, 0, 0), (.istore_n 2, 0, 0, 0), (.iinc 4 (1), 0, 0, 0)]
theorem k_X_judge_125_3 : bok m_X_judge 125 b_X_judge_125_3 = true := by decide +kernel
def b_X_judge_11_1 : List Ins := [(.iconst (-1), 0, 0, 0)]
theorem k_X_judge_11_1 : bok m_X_judge 11 b_X_judge_11_1 = true := by decide +kernel
theorem d_X_judge_5 : decode m_X_judge.2.1 5 = .ok (.invokevirtual 156, 3) := by decide +kernel
theorem d_X_judge_8 : decode m_X_judge.2.1 8 = .ok (.ifCond .ne (5), 3) := by decide +kernel
theorem d_X_judge_26 : decode m_X_judge.2.1 26 = .ok (.if_icmp .ge (108), 3) := by decide +kernel
theorem d_X_judge_135 : decode m_X_judge.2.1 135 = .ok (.ireturn, 1) := by decide +kernel
theorem d_X_judge_33 : decode m_X_judge.2.1 33 = .ok (.if_icmp .ge (101), 3) := by decide +kernel
theorem d_X_judge_58 : decode m_X_judge.2.1 58 = .ok (.invokevirtual 128, 3) := by decide +kernel
theorem d_X_judge_62 : decode m_X_judge.2.1 62 = .ok (.if_icmp .eq (17), 3) := by decide +kernel
theorem d_X_judge_83 : decode m_X_judge.2.1 83 = .ok (.ireturn, 1) := by decide +kernel
theorem d_X_judge_73 : decode m_X_judge.2.1 73 = .ok (.invokevirtual 134, 3) := by decide +kernel
theorem d_X_judge_76 : decode m_X_judge.2.1 76 = .ok (.ifCond .ne (8), 3) := by decide +kernel
theorem d_X_judge_91 : decode m_X_judge.2.1 91 = .ok (.invokevirtual 153, 3) := by decide +kernel
theorem d_X_judge_106 : decode m_X_judge.2.1 106 = .ok (.invokevirtual 233, 3) := by decide +kernel
theorem d_X_judge_109 : decode m_X_judge.2.1 109 = .ok (.if_icmp .ne (11), 3) := by decide +kernel
theorem d_X_judge_124 : decode m_X_judge.2.1 124 = .ok (.ireturn, 1) := by decide +kernel
theorem d_X_judge_117 : decode m_X_judge.2.1 117 = .ok (.if_icmp .eq (8), 3) := by decide +kernel
theorem d_X_judge_131 : decode m_X_judge.2.1 131 = .ok (.goto (-111), 3) := by decide +kernel
theorem d_X_judge_12 : decode m_X_judge.2.1 12 = .ok (.ireturn, 1) := by decide +kernel
def lp_X_judge_20    : Nat → hs → Int32 → Int32 → Int32 → Option (Int32 × hs)
  | 0, _, _, _, _ => none
  | n + 1, S, x2, x3, x4 => (if (gI S 33 6) ≤ x4 then some ((0 : Int32), S) else (if (20 : Int32) ≤ x4 then some ((0 : Int32), S) else ck (inb x4 20) (bd (f_T_turnNow  S x2 (gI S (171 + (x4).toNatClampNeg) 0)) fun r8 S9 => (if r8 = (-1 : Int32) then some ((x4 + (1 : Int32)), S9) else bd (f_T_mayGo  S9 x2 (gI S (171 + (x4).toNatClampNeg) 0) (0 : Int32)) fun r12 S13 => (if r12 = 0 then some ((x4 + (1 : Int32)), S13) else bd (f_T_longOf  S13 (gI S (171 + (x4).toNatClampNeg) 0)) fun r16 S17 => bd (f_T_endOf  S17 (gI S (171 + (x4).toNatClampNeg) 0)) fun r19 S20 => (if (gI S17 (171 + (x4).toNatClampNeg) 1) = r19 then (if (gI S20 (171 + (x4).toNatClampNeg) 2) = (x3 + r16) then lp_X_judge_20  n S20 (gI S (171 + (x4).toNatClampNeg) 0) (x3 + r16) (x4 + (1 : Int32)) else some ((x4 + (1 : Int32)), S20)) else some ((x4 + (1 : Int32)), S20)))))))
def f_X_judge  (S : hs) (x1 : Int32) : Option (Int32 × hs) := bd (f_T_hasCourse  S x1) fun r1 S2 => (if r1 = 0 then some ((-1 : Int32), S2) else lp_X_judge_20  1000 S2 x1 (0 : Int32) (0 : Int32))
theorem lo_X_judge_20 (w : Wd) (d : Nat) (c : cx) {n0 z0 : Nat} {z : Int32 × hs}       :
    ∀ (n : Nat) (S : hs) (x2 : Int32) (x3 : Int32) (x4 : Int32), lp_X_judge_20  n S x2 x3 x4 = some z → J w (d + 6) m_X_judge (n0, z0, some (.int z.1), mk c z.2) 20 [some (.ref 33), none, some (.int x2), some (.int x3), some (.int x4), none, none] [] (mk c S) := by
  intro n
  induction n with
  | zero => intro S x2 x3 x4 H; cases H
  | succ n ih =>
    intro S x2 x3 x4 H
    rw [lp_X_judge_20] at H
    refine J.run b_X_judge_20_3 k_X_judge_20_3 rfl (And.intro (okO_st (S := S) rfl) (show J w (d + 6) m_X_judge (n0, z0, some (.int z.1), mk c z.2) 26 [some (.ref 33), none, some (.int x2), some (.int x3), some (.int x4), none, none] [.int (gI S 33 6), .int x4] (mk c S) from ?_))
    refine J.cge (tgt := 134) d_X_judge_26 rfl (fun q5 => ?_) (fun q5 => ?_)
    · have H := ite_t H q5
      refine J.run b_X_judge_134_1 k_X_judge_134_1 rfl (show J w (d + 6) m_X_judge (n0, z0, some (.int z.1), mk c z.2) 135 [some (.ref 33), none, some (.int x2), some (.int x3), some (.int x4), none, none] [.int (0 : Int32)] (mk c S) from ?_)
      obtain rfl := some_e H
      exact J.iret d_X_judge_135 rfl rfl
    · have H := ite_f H q5
      refine J.run b_X_judge_29_2 k_X_judge_29_2 rfl (show J w (d + 6) m_X_judge (n0, z0, some (.int z.1), mk c z.2) 33 [some (.ref 33), none, some (.int x2), some (.int x3), some (.int x4), none, none] [.int (20 : Int32), .int x4] (mk c S) from ?_)
      refine J.cge (tgt := 134) d_X_judge_33 rfl (fun q6 => ?_) (fun q6 => ?_)
      · have H := ite_t H q6
        refine J.run b_X_judge_134_1 k_X_judge_134_1 rfl (show J w (d + 6) m_X_judge (n0, z0, some (.int z.1), mk c z.2) 135 [some (.ref 33), none, some (.int x2), some (.int x3), some (.int x4), none, none] [.int (0 : Int32)] (mk c S) from ?_)
        obtain rfl := some_e H
        exact J.iret d_X_judge_135 rfl rfl
      · have H := ite_f H q6
        obtain ⟨g7, H⟩ := ck_e H
        refine J.run b_X_judge_36_13 k_X_judge_36_13 rfl (And.intro (okO_st (S := S) rfl) (And.intro (okQ_st (S := S) (k := 23) (n := 20) rfl rfl g7) (And.intro (okA_row (S := S) (b := 171) (cnt := 20) (n := 3) rfl (inb_lt g7) rfl) (And.intro (okO_st (S := S) rfl) (show J w (d + 6) m_X_judge (n0, z0, some (.int z.1), mk c z.2) 58 [some (.ref 33), none, some (.int x2), some (.int x3), some (.int x4), some (.ref (171 + (x4).toNatClampNeg)), some (.int (gI S (171 + (x4).toNatClampNeg) 0))] [.int (gI S (171 + (x4).toNatClampNeg) 0), .int x2, .ref 34] (mk c S) from ?_)))))
        obtain ⟨r8, S9, h10, H⟩ := bd_e H
        refine J.callV (y := m_T_turnNow) (av := [.int x2, .int (gI S (171 + (x4).toNatClampNeg) 0)]) (rest := []) (q := 34) l_X_128 d_X_judge_58 (isC_st rfl rfl) (c_T_turnNow w (d + 1) c  S x2 (gI S (171 + (x4).toNatClampNeg) 0) h10) rfl (Nat.le_of_ble_eq_true rfl) ⟨Nat.le_refl _, Nat.le_refl _⟩ (show J w (d + 6) m_X_judge (n0, z0, some (.int z.1), mk c z.2) 61 [some (.ref 33), none, some (.int x2), some (.int x3), some (.int x4), some (.ref (171 + (x4).toNatClampNeg)), some (.int (gI S (171 + (x4).toNatClampNeg) 0))] [.int r8] (mk c S9) from ?_)
        refine J.run b_X_judge_61_1 k_X_judge_61_1 rfl (show J w (d + 6) m_X_judge (n0, z0, some (.int z.1), mk c z.2) 62 [some (.ref 33), none, some (.int x2), some (.int x3), some (.int x4), some (.ref (171 + (x4).toNatClampNeg)), some (.int (gI S (171 + (x4).toNatClampNeg) 0))] [.int (-1 : Int32), .int r8] (mk c S9) from ?_)
        refine J.ceq (tgt := 79) d_X_judge_62 rfl (fun q11 => ?_) (fun q11 => ?_)
        · have H := ite_t H q11
          refine J.run b_X_judge_79_3 k_X_judge_79_3 rfl (show J w (d + 6) m_X_judge (n0, z0, some (.int z.1), mk c z.2) 83 [some (.ref 33), none, some (.int x2), some (.int x3), some (.int x4), some (.ref (171 + (x4).toNatClampNeg)), some (.int (gI S (171 + (x4).toNatClampNeg) 0))] [.int (x4 + (1 : Int32))] (mk c S9) from ?_)
          obtain rfl := some_e H
          exact J.iret d_X_judge_83 rfl rfl
        · have H := ite_f H q11
          refine J.run b_X_judge_65_5 k_X_judge_65_5 rfl (And.intro (okO_st (S := S9) rfl) (show J w (d + 6) m_X_judge (n0, z0, some (.int z.1), mk c z.2) 73 [some (.ref 33), none, some (.int x2), some (.int x3), some (.int x4), some (.ref (171 + (x4).toNatClampNeg)), some (.int (gI S (171 + (x4).toNatClampNeg) 0))] [.int (0 : Int32), .int (gI S (171 + (x4).toNatClampNeg) 0), .int x2, .ref 34] (mk c S9) from ?_))
          obtain ⟨r12, S13, h14, H⟩ := bd_e H
          refine J.callV (y := m_T_mayGo) (av := [.int x2, .int (gI S (171 + (x4).toNatClampNeg) 0), .int (0 : Int32)]) (rest := []) (q := 34) l_X_134 d_X_judge_73 (isC_st rfl rfl) (c_T_mayGo w (d + 0) c  S9 x2 (gI S (171 + (x4).toNatClampNeg) 0) (0 : Int32) h14) rfl (Nat.le_of_ble_eq_true rfl) ⟨Nat.le_refl _, Nat.le_refl _⟩ (show J w (d + 6) m_X_judge (n0, z0, some (.int z.1), mk c z.2) 76 [some (.ref 33), none, some (.int x2), some (.int x3), some (.int x4), some (.ref (171 + (x4).toNatClampNeg)), some (.int (gI S (171 + (x4).toNatClampNeg) 0))] [.int r12] (mk c S13) from ?_)
          refine J.zne (tgt := 84) d_X_judge_76 rfl (fun q15 => ?_) (fun q15 => ?_)
          · have H := ite_f H q15
            refine J.run b_X_judge_84_4 k_X_judge_84_4 rfl (And.intro (okO_st (S := S13) rfl) (show J w (d + 6) m_X_judge (n0, z0, some (.int z.1), mk c z.2) 91 [some (.ref 33), none, some (.int x2), some (.int x3), some (.int x4), some (.ref (171 + (x4).toNatClampNeg)), some (.int (gI S (171 + (x4).toNatClampNeg) 0))] [.int (gI S (171 + (x4).toNatClampNeg) 0), .ref 34, .int x3] (mk c S13) from ?_))
            obtain ⟨r16, S17, h18, H⟩ := bd_e H
            refine J.callV (y := m_T_longOf) (av := [.int (gI S (171 + (x4).toNatClampNeg) 0)]) (rest := [.int x3]) (q := 34) l_X_153 d_X_judge_91 (isC_st rfl rfl) (c_T_longOf w (d + 3) c  S13 (gI S (171 + (x4).toNatClampNeg) 0) h18) rfl (Nat.le_of_ble_eq_true rfl) ⟨Nat.le_refl _, Nat.le_refl _⟩ (show J w (d + 6) m_X_judge (n0, z0, some (.int z.1), mk c z.2) 94 [some (.ref 33), none, some (.int x2), some (.int x3), some (.int x4), some (.ref (171 + (x4).toNatClampNeg)), some (.int (gI S (171 + (x4).toNatClampNeg) 0))] [.int r16, .int x3] (mk c S17) from ?_)
            refine J.run b_X_judge_94_8 k_X_judge_94_8 rfl (And.intro (okA_row (S := S17) (b := 171) (cnt := 20) (n := 3) rfl (inb_lt g7) rfl) (And.intro (okO_st (S := S17) rfl) (show J w (d + 6) m_X_judge (n0, z0, some (.int z.1), mk c z.2) 106 [some (.ref 33), none, some (.int x2), some (.int (x3 + r16)), some (.int x4), some (.ref (171 + (x4).toNatClampNeg)), some (.int (gI S (171 + (x4).toNatClampNeg) 0))] [.int (gI S (171 + (x4).toNatClampNeg) 0), .ref 34, .int (gI S17 (171 + (x4).toNatClampNeg) 1)] (mk c S17) from ?_)))
            obtain ⟨r19, S20, h21, H⟩ := bd_e H
            refine J.callV (y := m_T_endOf) (av := [.int (gI S (171 + (x4).toNatClampNeg) 0)]) (rest := [.int (gI S17 (171 + (x4).toNatClampNeg) 1)]) (q := 34) l_X_233 d_X_judge_106 (isC_st rfl rfl) (c_T_endOf w (d + 3) c  S17 (gI S (171 + (x4).toNatClampNeg) 0) h21) rfl (Nat.le_of_ble_eq_true rfl) ⟨Nat.le_refl _, Nat.le_refl _⟩ (show J w (d + 6) m_X_judge (n0, z0, some (.int z.1), mk c z.2) 109 [some (.ref 33), none, some (.int x2), some (.int (x3 + r16)), some (.int x4), some (.ref (171 + (x4).toNatClampNeg)), some (.int (gI S (171 + (x4).toNatClampNeg) 0))] [.int r19, .int (gI S17 (171 + (x4).toNatClampNeg) 1)] (mk c S20) from ?_)
            refine J.cne (tgt := 120) d_X_judge_109 rfl (fun q22 => ?_) (fun q22 => ?_)
            · have H := ite_f H q22
              refine J.run b_X_judge_120_3 k_X_judge_120_3 rfl (show J w (d + 6) m_X_judge (n0, z0, some (.int z.1), mk c z.2) 124 [some (.ref 33), none, some (.int x2), some (.int (x3 + r16)), some (.int x4), some (.ref (171 + (x4).toNatClampNeg)), some (.int (gI S (171 + (x4).toNatClampNeg) 0))] [.int (x4 + (1 : Int32))] (mk c S20) from ?_)
              obtain rfl := some_e H
              exact J.iret d_X_judge_124 rfl rfl
            · have H := ite_t H q22
              refine J.run b_X_judge_112_4 k_X_judge_112_4 rfl (And.intro (okA_row (S := S20) (b := 171) (cnt := 20) (n := 3) rfl (inb_lt g7) rfl) (show J w (d + 6) m_X_judge (n0, z0, some (.int z.1), mk c z.2) 117 [some (.ref 33), none, some (.int x2), some (.int (x3 + r16)), some (.int x4), some (.ref (171 + (x4).toNatClampNeg)), some (.int (gI S (171 + (x4).toNatClampNeg) 0))] [.int (x3 + r16), .int (gI S20 (171 + (x4).toNatClampNeg) 2)] (mk c S20) from ?_))
              refine J.ceq (tgt := 125) d_X_judge_117 rfl (fun q23 => ?_) (fun q23 => ?_)
              · have H := ite_t H q23
                refine J.run b_X_judge_125_3 k_X_judge_125_3 rfl (show J w (d + 6) m_X_judge (n0, z0, some (.int z.1), mk c z.2) 131 [some (.ref 33), none, some (.int (gI S (171 + (x4).toNatClampNeg) 0)), some (.int (x3 + r16)), some (.int (x4 + (1 : Int32))), some (.ref (171 + (x4).toNatClampNeg)), some (.int (gI S (171 + (x4).toNatClampNeg) 0))] [] (mk c S20) from ?_)
                refine J.goto (tgt := 20) d_X_judge_131 rfl ?_
                refine J.mask [true, false, true, true, true, false, false] ?_
                exact ih S20 (gI S (171 + (x4).toNatClampNeg) 0) (x3 + r16) (x4 + (1 : Int32)) H
              · have H := ite_f H q23
                refine J.run b_X_judge_120_3 k_X_judge_120_3 rfl (show J w (d + 6) m_X_judge (n0, z0, some (.int z.1), mk c z.2) 124 [some (.ref 33), none, some (.int x2), some (.int (x3 + r16)), some (.int x4), some (.ref (171 + (x4).toNatClampNeg)), some (.int (gI S (171 + (x4).toNatClampNeg) 0))] [.int (x4 + (1 : Int32))] (mk c S20) from ?_)
                obtain rfl := some_e H
                exact J.iret d_X_judge_124 rfl rfl
          · have H := ite_t H q15
            refine J.run b_X_judge_79_3 k_X_judge_79_3 rfl (show J w (d + 6) m_X_judge (n0, z0, some (.int z.1), mk c z.2) 83 [some (.ref 33), none, some (.int x2), some (.int x3), some (.int x4), some (.ref (171 + (x4).toNatClampNeg)), some (.int (gI S (171 + (x4).toNatClampNeg) 0))] [.int (x4 + (1 : Int32))] (mk c S13) from ?_)
            obtain rfl := some_e H
            exact J.iret d_X_judge_83 rfl rfl
theorem c_X_judge (w : Wd) (d : Nat) (c : cx)   (S : hs) (x1 : Int32)  {z : Int32 × hs} (H : f_X_judge S x1 = some z) : Cl w (d + 6) m_X_judge [.ref 33, .int x1] (mk c S) (some (.int z.1)) (mk c z.2) := by
  refine Cl.of (Nat.le_refl _) (Nat.le_refl _) (by decide +kernel) (Nat.le_of_ble_eq_true rfl) ?_
  unfold f_X_judge at H
  generalize hN (mk c S) = n0
  generalize hZ (mk c S) = z0
  show J w (d + 6) m_X_judge (n0, z0, some (.int z.1), mk c z.2) 0 [some (.ref 33), some (.int x1), none, none, none, none, none] [] (mk c S)
  refine J.run b_X_judge_0_3 k_X_judge_0_3 rfl (And.intro (okO_st (S := S) rfl) (show J w (d + 6) m_X_judge (n0, z0, some (.int z.1), mk c z.2) 5 [some (.ref 33), some (.int x1), none, none, none, none, none] [.int x1, .ref 34] (mk c S) from ?_))
  obtain ⟨r1, S2, h3, H⟩ := bd_e H
  refine J.callV (y := m_T_hasCourse) (av := [.int x1]) (rest := []) (q := 34) l_X_156 d_X_judge_5 (isC_st rfl rfl) (c_T_hasCourse w (d + 2) c  S x1 h3) rfl (Nat.le_of_ble_eq_true rfl) ⟨Nat.le_refl _, Nat.le_refl _⟩ (show J w (d + 6) m_X_judge (n0, z0, some (.int z.1), mk c z.2) 8 [some (.ref 33), some (.int x1), none, none, none, none, none] [.int r1] (mk c S2) from ?_)
  refine J.zne (tgt := 13) d_X_judge_8 rfl (fun q4 => ?_) (fun q4 => ?_)
  · have H := ite_f H q4
    refine J.run b_X_judge_13_6 k_X_judge_13_6 rfl (show J w (d + 6) m_X_judge (n0, z0, some (.int z.1), mk c z.2) 20 [some (.ref 33), some (.int x1), some (.int x1), some (.int (0 : Int32)), some (.int (0 : Int32)), none, none] [] (mk c S2) from ?_)
    refine J.mask [true, false, true, true, true, false, false] ?_
    refine lo_X_judge_20 w d c   1000 S2 x1 (0 : Int32) (0 : Int32) H
  · have H := ite_t H q4
    refine J.run b_X_judge_11_1 k_X_judge_11_1 rfl (show J w (d + 6) m_X_judge (n0, z0, some (.int z.1), mk c z.2) 12 [some (.ref 33), some (.int x1), none, none, none, none, none] [.int (-1 : Int32)] (mk c S2) from ?_)
    obtain rfl := some_e H
    exact J.iret d_X_judge_12 rfl rfl
def b_H_hasSheet_0_1 : List Ins := [(.iload_n 1, 0, 0, 0)]
theorem k_H_hasSheet_0_1 : bok m_H_hasSheet 0 b_H_hasSheet_0_1 = true := by decide +kernel
def b_H_hasSheet_13_1 : List Ins := [(.iconst (0), 0, 0, 0)]
theorem k_H_hasSheet_13_1 : bok m_H_hasSheet 13 b_H_hasSheet_13_1 = true := by decide +kernel
def b_H_hasSheet_4_2 : List Ins := [(.iload_n 1, 0, 0, 0), (.iconst (4), 0, 0, 0)]
theorem k_H_hasSheet_4_2 : bok m_H_hasSheet 4 b_H_hasSheet_4_2 = true := by decide +kernel
def b_H_hasSheet_9_1 : List Ins := [(.iconst (1), 0, 0, 0)]
theorem k_H_hasSheet_9_1 : bok m_H_hasSheet 9 b_H_hasSheet_9_1 = true := by decide +kernel
theorem d_H_hasSheet_1 : decode m_H_hasSheet.2.1 1 = .ok (.ifCond .lt (12), 3) := by decide +kernel
theorem d_H_hasSheet_14 : decode m_H_hasSheet.2.1 14 = .ok (.ireturn, 1) := by decide +kernel
theorem d_H_hasSheet_6 : decode m_H_hasSheet.2.1 6 = .ok (.if_icmp .ge (7), 3) := by decide +kernel
theorem d_H_hasSheet_10 : decode m_H_hasSheet.2.1 10 = .ok (.goto (4), 3) := by decide +kernel
def f_H_hasSheet  (S : hs) (x1 : Int32) : Option (Int32 × hs) := (if x1 < 0 then some ((0 : Int32), S) else (if (4 : Int32) ≤ x1 then some ((0 : Int32), S) else some ((1 : Int32), S)))
theorem c_H_hasSheet (w : Wd) (d : Nat) (c : cx)   (S : hs) (x1 : Int32)  {z : Int32 × hs} (H : f_H_hasSheet S x1 = some z) : Cl w (d + 1) m_H_hasSheet [.ref 159, .int x1] (mk c S) (some (.int z.1)) (mk c z.2) := by
  refine Cl.of (Nat.le_refl _) (Nat.le_refl _) (by decide +kernel) (Nat.le_of_ble_eq_true rfl) ?_
  unfold f_H_hasSheet at H
  generalize hN (mk c S) = n0
  generalize hZ (mk c S) = z0
  show J w (d + 1) m_H_hasSheet (n0, z0, some (.int z.1), mk c z.2) 0 [some (.ref 159), some (.int x1)] [] (mk c S)
  refine J.run b_H_hasSheet_0_1 k_H_hasSheet_0_1 rfl (show J w (d + 1) m_H_hasSheet (n0, z0, some (.int z.1), mk c z.2) 1 [some (.ref 159), some (.int x1)] [.int x1] (mk c S) from ?_)
  refine J.zlt (tgt := 13) d_H_hasSheet_1 rfl (fun q1 => ?_) (fun q1 => ?_)
  · have H := ite_t H q1
    refine J.run b_H_hasSheet_13_1 k_H_hasSheet_13_1 rfl (show J w (d + 1) m_H_hasSheet (n0, z0, some (.int z.1), mk c z.2) 14 [some (.ref 159), some (.int x1)] [.int (0 : Int32)] (mk c S) from ?_)
    obtain rfl := some_e H
    exact J.nret d_H_hasSheet_14 rfl rfl rfl
  · have H := ite_f H q1
    refine J.run b_H_hasSheet_4_2 k_H_hasSheet_4_2 rfl (show J w (d + 1) m_H_hasSheet (n0, z0, some (.int z.1), mk c z.2) 6 [some (.ref 159), some (.int x1)] [.int (4 : Int32), .int x1] (mk c S) from ?_)
    refine J.cge (tgt := 13) d_H_hasSheet_6 rfl (fun q2 => ?_) (fun q2 => ?_)
    · have H := ite_t H q2
      refine J.run b_H_hasSheet_13_1 k_H_hasSheet_13_1 rfl (show J w (d + 1) m_H_hasSheet (n0, z0, some (.int z.1), mk c z.2) 14 [some (.ref 159), some (.int x1)] [.int (0 : Int32)] (mk c S) from ?_)
      obtain rfl := some_e H
      exact J.nret d_H_hasSheet_14 rfl rfl rfl
    · have H := ite_f H q2
      refine J.run b_H_hasSheet_9_1 k_H_hasSheet_9_1 rfl (show J w (d + 1) m_H_hasSheet (n0, z0, some (.int z.1), mk c z.2) 10 [some (.ref 159), some (.int x1)] [.int (1 : Int32)] (mk c S) from ?_)
      refine J.goto (tgt := 14) d_H_hasSheet_10 rfl ?_
      obtain rfl := some_e H
      exact J.nret d_H_hasSheet_14 rfl rfl rfl
def b_Ar_fill_aJJV_0_4 : List Ins := [(.iconst (0), 0, 0, 0), (.istore_n 3, 0, 0, 0), (.aload_n 0, 0, 0, 0), (.arraylength, 0, 0, 0)]
theorem k_Ar_fill_aJJV_0_4 : bok m_Ar_fill_aJJV 0 b_Ar_fill_aJJV_0_4 = true := by decide +kernel
def b_Ar_fill_aJJV_4_1 : List Ins := [(.istore 4, 0, 0, 0)]
theorem k_Ar_fill_aJJV_4_1 : bok m_Ar_fill_aJJV 4 b_Ar_fill_aJJV_4_1 = true := by decide +kernel
def b_Ar_fill_aJJV_6_2 : List Ins := [(.iload_n 3, 0, 0, 0), (.iload 4, 0, 0, 0)]
theorem k_Ar_fill_aJJV_6_2 : bok m_Ar_fill_aJJV 6 b_Ar_fill_aJJV_6_2 = true := by decide +kernel
def b_Ar_fill_aJJV_12_5 : List Ins := [(.aload_n 0, 0, 0, 0), (.iload_n 3, 0, 0, 0), (.lload_n 1, 0, 0, 0), (.lastore, 0, 0, 0), (.iinc 3 (1), 0, 0, 0)]
theorem k_Ar_fill_aJJV_12_5 : bok m_Ar_fill_aJJV 12 b_Ar_fill_aJJV_12_5 = true := by decide +kernel
theorem d_Ar_fill_aJJV_9 : decode m_Ar_fill_aJJV.2.1 9 = .ok (.if_icmp .ge (13), 3) := by decide +kernel
theorem d_Ar_fill_aJJV_22 : decode m_Ar_fill_aJJV.2.1 22 = .ok (.return_, 1) := by decide +kernel
theorem d_Ar_fill_aJJV_19 : decode m_Ar_fill_aJJV.2.1 19 = .ok (.goto (-13), 3) := by decide +kernel
def lp_Ar_fill_aJJV_w163_6 (a0 : Nat) (x1 : Int64) (x4 : Int32)   : Nat → hs → Int32 → Option (Int32 × hs)
  | 0, _, _ => none
  | n + 1, S, x3 => (if x4 ≤ x3 then some ((0 : Int32), S) else ck (inb x3 40) (lp_Ar_fill_aJJV_w163_6 a0 x1 x4 n (uJ S (163 + a0) (x3).toNatClampNeg x1) (x3 + (1 : Int32))))
def f_Ar_fill_aJJV_w163  (S : hs) (a0 : Nat) (x1 : Int64) : Option (Int32 × hs) := lp_Ar_fill_aJJV_w163_6 a0 x1 (40 : Int32) 1000 S (0 : Int32)
theorem lo_Ar_fill_aJJV_w163_6 (w : Wd) (d : Nat) (c : cx) {n0 z0 : Nat} {z : Int32 × hs}   (a0 : Nat) (x1 : Int64) (x4 : Int32) (ha0 : a0 < 4)   :
    ∀ (n : Nat) (S : hs) (x3 : Int32), lp_Ar_fill_aJJV_w163_6 a0 x1 x4 n S x3 = some z → J w (d + 1) m_Ar_fill_aJJV (n0, z0, none, mk c z.2) 6 [some (.ref (163 + a0)), some (.long x1), none, some (.int x3), some (.int x4)] [] (mk c S) := by
  intro n
  induction n with
  | zero => intro S x3 H; cases H
  | succ n ih =>
    intro S x3 H
    rw [lp_Ar_fill_aJJV_w163_6] at H
    refine J.run b_Ar_fill_aJJV_6_2 k_Ar_fill_aJJV_6_2 rfl (show J w (d + 1) m_Ar_fill_aJJV (n0, z0, none, mk c z.2) 9 [some (.ref (163 + a0)), some (.long x1), none, some (.int x3), some (.int x4)] [.int x4, .int x3] (mk c S) from ?_)
    refine J.cge (tgt := 22) d_Ar_fill_aJJV_9 rfl (fun q1 => ?_) (fun q1 => ?_)
    · have H := ite_t H q1
      obtain rfl := some_e H
      exact J.vret d_Ar_fill_aJJV_22 rfl rfl
    · have H := ite_f H q1
      obtain ⟨g2, H⟩ := ck_e H
      refine J.run b_Ar_fill_aJJV_12_5 k_Ar_fill_aJJV_12_5 rfl (And.intro (okB_row (S := S) (b := 163) (cnt := 4) (n := 40) rfl ha0 g2) (show J w (d + 1) m_Ar_fill_aJJV (n0, z0, none, mk c z.2) 19 [some (.ref (163 + a0)), some (.long x1), none, some (.int (x3 + (1 : Int32))), some (.int x4)] [] (mk c (uJ S (163 + a0) (x3).toNatClampNeg x1)) from ?_))
      refine J.goto (tgt := 6) d_Ar_fill_aJJV_19 rfl ?_
      refine J.mask [true, true, false, true, true] ?_
      exact ih (uJ S (163 + a0) (x3).toNatClampNeg x1) (x3 + (1 : Int32)) H
theorem c_Ar_fill_aJJV_w163 (w : Wd) (d : Nat) (c : cx)   (S : hs) (a0 : Nat) (x1 : Int64) (ha0 : a0 < 4) {z : Int32 × hs} (H : f_Ar_fill_aJJV_w163 S a0 x1 = some z) : Cl w (d + 1) m_Ar_fill_aJJV [.ref (163 + a0), .long x1] (mk c S) (none) (mk c z.2) := by
  refine Cl.of (Nat.le_refl _) (Nat.le_refl _) (by decide +kernel) (Nat.le_of_ble_eq_true rfl) ?_
  unfold f_Ar_fill_aJJV_w163 at H
  generalize hN (mk c S) = n0
  generalize hZ (mk c S) = z0
  show J w (d + 1) m_Ar_fill_aJJV (n0, z0, none, mk c z.2) 0 [some (.ref (163 + a0)), some (.long x1), none, none, none] [] (mk c S)
  refine J.run b_Ar_fill_aJJV_0_4 k_Ar_fill_aJJV_0_4 rfl (And.intro (okN_row (S := S) (b := 163) (cnt := 4) (k := 21) (n := 40) rfl rfl ha0) (show J w (d + 1) m_Ar_fill_aJJV (n0, z0, none, mk c z.2) 4 [some (.ref (163 + a0)), some (.long x1), none, some (.int (0 : Int32)), none] [.int (Int32.ofNat (hK (mk c S) (163 + a0)).2)] (mk c S) from ?_))
  rw [show hK (mk c S) (163 + a0) = (21, 40) from (rws_e (b := 163) (cnt := 4) rfl ha0).2.2]
  show J w (d + 1) m_Ar_fill_aJJV (n0, z0, none, mk c z.2) 4 [some (.ref (163 + a0)), some (.long x1), none, some (.int (0 : Int32)), none] [.int (40 : Int32)] (mk c S)
  refine J.run b_Ar_fill_aJJV_4_1 k_Ar_fill_aJJV_4_1 rfl (show J w (d + 1) m_Ar_fill_aJJV (n0, z0, none, mk c z.2) 6 [some (.ref (163 + a0)), some (.long x1), none, some (.int (0 : Int32)), some (.int (40 : Int32))] [] (mk c S) from ?_)
  refine J.mask [true, true, false, true, true] ?_
  refine lo_Ar_fill_aJJV_w163_6 w d c a0 x1 (40 : Int32) ha0  1000 S (0 : Int32) H
def b_H_lay_0_15 : List Ins := [(.aload_n 0, 0, 0, 0), (.getfield 9, 5, 0, 2), (.iload_n 1, 0, 0, 0), (.iload_n 2, 0, 0, 0), (.iastore, 0, 0, 0), (.aload_n 0, 0, 0, 0), (.getfield 15, 5, 1, 2), (.iload_n 1, 0, 0, 0), (.iload_n 3, 0, 0, 0), (.iastore, 0, 0, 0), (.aload_n 0, 0, 0, 0), (.getfield 20, 5, 2, 2), (.iload_n 1, 0, 0, 0), (.aaload, 0, 0, 0), (.lconst 0, 0, 0, 0)]
theorem k_H_lay_0_15 : bok m_H_lay 0 b_H_lay_0_15 = true := by decide +kernel
theorem d_H_lay_21 : decode m_H_lay.2.1 21 = .ok (.invokestatic 32, 3) := by decide +kernel
theorem d_H_lay_24 : decode m_H_lay.2.1 24 = .ok (.return_, 1) := by decide +kernel
def f_H_lay  (S : hs) (x1 : Int32) (x2 : Int32) (x3 : Int32) : Option (Int32 × hs) := ck (inb x1 4) (bd (f_Ar_fill_aJJV_w163  (uI (uI S 160 (x1).toNatClampNeg x2) 161 (x1).toNatClampNeg x3) (x1).toNatClampNeg (0 : Int64)) fun r2 S3 => some ((0 : Int32), S3))
theorem c_H_lay (w : Wd) (d : Nat) (c : cx)   (S : hs) (x1 : Int32) (x2 : Int32) (x3 : Int32)  {z : Int32 × hs} (H : f_H_lay S x1 x2 x3 = some z) : Cl w (d + 2) m_H_lay [.ref 159, .int x1, .int x2, .int x3] (mk c S) (none) (mk c z.2) := by
  refine Cl.of (Nat.le_refl _) (Nat.le_refl _) (by decide +kernel) (Nat.le_of_ble_eq_true rfl) ?_
  unfold f_H_lay at H
  generalize hN (mk c S) = n0
  generalize hZ (mk c S) = z0
  show J w (d + 2) m_H_lay (n0, z0, none, mk c z.2) 0 [some (.ref 159), some (.int x1), some (.int x2), some (.int x3)] [] (mk c S)
  obtain ⟨g1, H⟩ := ck_e H
  refine J.run b_H_lay_0_15 k_H_lay_0_15 rfl (And.intro (okO_st (S := S) rfl) (And.intro (okB_st (S := S) (n := 4) rfl g1) (And.intro (okO_st (S := (uI S 160 (x1).toNatClampNeg x2)) rfl) (And.intro (okB_st (S := (uI S 160 (x1).toNatClampNeg x2)) (n := 4) rfl g1) (And.intro (okO_st (S := (uI (uI S 160 (x1).toNatClampNeg x2) 161 (x1).toNatClampNeg x3)) rfl) (And.intro (okQ_st (S := (uI (uI S 160 (x1).toNatClampNeg x2) 161 (x1).toNatClampNeg x3)) (k := 24) (n := 4) rfl rfl g1) (show J w (d + 2) m_H_lay (n0, z0, none, mk c z.2) 21 [some (.ref 159), some (.int x1), some (.int x2), some (.int x3)] [.long (0 : Int64), .ref (163 + (x1).toNatClampNeg)] (mk c (uI (uI S 160 (x1).toNatClampNeg x2) 161 (x1).toNatClampNeg x3)) from ?_)))))))
  obtain ⟨r2, S3, h4, H⟩ := bd_e H
  refine J.callS (y := m_Ar_fill_aJJV) (av := [.ref (163 + (x1).toNatClampNeg), .long (0 : Int64)]) (rest := []) l_H_32 d_H_lay_21 (c_Ar_fill_aJJV_w163 w (d + 0) c  (uI (uI S 160 (x1).toNatClampNeg x2) 161 (x1).toNatClampNeg x3) (x1).toNatClampNeg (0 : Int64) (inb_lt g1) h4) rfl (Nat.le_of_ble_eq_true rfl) ⟨Nat.le_refl _, Nat.le_refl _⟩ (show J w (d + 2) m_H_lay (n0, z0, none, mk c z.2) 24 [some (.ref 159), some (.int x1), some (.int x2), some (.int x3)] [] (mk c S3) from ?_)
  obtain rfl := some_e H
  exact J.vret d_H_lay_24 rfl rfl
def b_X_isSort_0_1 : List Ins := [(.iload_n 0, 0, 0, 0)]
theorem k_X_isSort_0_1 : bok m_X_isSort 0 b_X_isSort_0_1 = true := by decide +kernel
def b_X_isSort_13_1 : List Ins := [(.iconst (0), 0, 0, 0)]
theorem k_X_isSort_13_1 : bok m_X_isSort 13 b_X_isSort_13_1 = true := by decide +kernel
def b_X_isSort_4_2 : List Ins := [(.iload_n 0, 0, 0, 0), (.iconst (4), 0, 0, 0)]
theorem k_X_isSort_4_2 : bok m_X_isSort 4 b_X_isSort_4_2 = true := by decide +kernel
def b_X_isSort_9_1 : List Ins := [(.iconst (1), 0, 0, 0)]
theorem k_X_isSort_9_1 : bok m_X_isSort 9 b_X_isSort_9_1 = true := by decide +kernel
theorem d_X_isSort_1 : decode m_X_isSort.2.1 1 = .ok (.ifCond .lt (12), 3) := by decide +kernel
theorem d_X_isSort_14 : decode m_X_isSort.2.1 14 = .ok (.ireturn, 1) := by decide +kernel
theorem d_X_isSort_6 : decode m_X_isSort.2.1 6 = .ok (.if_icmp .gt (7), 3) := by decide +kernel
theorem d_X_isSort_10 : decode m_X_isSort.2.1 10 = .ok (.goto (4), 3) := by decide +kernel
def f_X_isSort  (S : hs) (x0 : Int32) : Option (Int32 × hs) := (if x0 < 0 then some ((0 : Int32), S) else (if (4 : Int32) < x0 then some ((0 : Int32), S) else some ((1 : Int32), S)))
theorem c_X_isSort (w : Wd) (d : Nat) (c : cx)   (S : hs) (x0 : Int32)  {z : Int32 × hs} (H : f_X_isSort S x0 = some z) : Cl w (d + 1) m_X_isSort [.int x0] (mk c S) (some (.int z.1)) (mk c z.2) := by
  refine Cl.of (Nat.le_refl _) (Nat.le_refl _) (by decide +kernel) (Nat.le_of_ble_eq_true rfl) ?_
  unfold f_X_isSort at H
  generalize hN (mk c S) = n0
  generalize hZ (mk c S) = z0
  show J w (d + 1) m_X_isSort (n0, z0, some (.int z.1), mk c z.2) 0 [some (.int x0)] [] (mk c S)
  refine J.run b_X_isSort_0_1 k_X_isSort_0_1 rfl (show J w (d + 1) m_X_isSort (n0, z0, some (.int z.1), mk c z.2) 1 [some (.int x0)] [.int x0] (mk c S) from ?_)
  refine J.zlt (tgt := 13) d_X_isSort_1 rfl (fun q1 => ?_) (fun q1 => ?_)
  · have H := ite_t H q1
    refine J.run b_X_isSort_13_1 k_X_isSort_13_1 rfl (show J w (d + 1) m_X_isSort (n0, z0, some (.int z.1), mk c z.2) 14 [some (.int x0)] [.int (0 : Int32)] (mk c S) from ?_)
    obtain rfl := some_e H
    exact J.nret d_X_isSort_14 rfl rfl rfl
  · have H := ite_f H q1
    refine J.run b_X_isSort_4_2 k_X_isSort_4_2 rfl (show J w (d + 1) m_X_isSort (n0, z0, some (.int z.1), mk c z.2) 6 [some (.int x0)] [.int (4 : Int32), .int x0] (mk c S) from ?_)
    refine J.cgt (tgt := 13) d_X_isSort_6 rfl (fun q2 => ?_) (fun q2 => ?_)
    · have H := ite_t H q2
      refine J.run b_X_isSort_13_1 k_X_isSort_13_1 rfl (show J w (d + 1) m_X_isSort (n0, z0, some (.int z.1), mk c z.2) 14 [some (.int x0)] [.int (0 : Int32)] (mk c S) from ?_)
      obtain rfl := some_e H
      exact J.nret d_X_isSort_14 rfl rfl rfl
    · have H := ite_f H q2
      refine J.run b_X_isSort_9_1 k_X_isSort_9_1 rfl (show J w (d + 1) m_X_isSort (n0, z0, some (.int z.1), mk c z.2) 10 [some (.int x0)] [.int (1 : Int32)] (mk c S) from ?_)
      refine J.goto (tgt := 14) d_X_isSort_10 rfl ?_
      obtain rfl := some_e H
      exact J.nret d_X_isSort_14 rfl rfl rfl
def b_X_sheet_0_3 : List Ins := [(.aload_n 0, 0, 0, 0), (.getfield 36, 0, 4, 2), (.iload_n 1, 0, 0, 0)]
theorem k_X_sheet_0_3 : bok m_X_sheet 0 b_X_sheet_0_3 = true := by decide +kernel
def b_X_sheet_23_1 : List Ins := [(.iconst (-1), 0, 0, 0)]
theorem k_X_sheet_23_1 : bok m_X_sheet 23 b_X_sheet_23_1 = true := by decide +kernel
def b_X_sheet_11_2 : List Ins := [(.iload_n 2, 0, 0, 0), (.iconst (-1), 0, 0, 0)]
theorem k_X_sheet_11_2 : bok m_X_sheet 11 b_X_sheet_11_2 = true := by decide +kernel
def b_X_sheet_25_2 : List Ins := [(.iload_n 2, 0, 0, 0), (.iconst (-1), 0, 0, 0)]
theorem k_X_sheet_25_2 : bok m_X_sheet 25 b_X_sheet_25_2 = true := by decide +kernel
def b_X_sheet_38_2 : List Ins := [(.iload_n 2, 0, 0, 0), (.iconst (-1), 0, 0, 0)]
theorem k_X_sheet_38_2 : bok m_X_sheet 38 b_X_sheet_38_2 = true := by decide +kernel
def b_X_sheet_50_6 : List Ins := [(.aload_n 0, 0, 0, 0), (.getfield 36, 0, 4, 2), (.iload_n 1, 0, 0, 0), (.iload_n 2, 0, 0, 0), (.iload_n 2, 0, 0, 0), (.iconst (-1), 0, 0, 0)]
theorem k_X_sheet_50_6 : bok m_X_sheet 50 b_X_sheet_50_6 = true := by decide +kernel
def b_X_sheet_65_1 : List Ins := [(.iload_n 3, 0, 0, 0)]
theorem k_X_sheet_65_1 : bok m_X_sheet 65 b_X_sheet_65_1 = true := by decide +kernel
def b_X_sheet_69_1 : List Ins := [(.iconst (1), 0, 0, 0)]
theorem k_X_sheet_69_1 : bok m_X_sheet 69 b_X_sheet_69_1 = true := by decide +kernel
def b_X_sheet_61_1 : List Ins := [(.iconst (0), 0, 0, 0)]
theorem k_X_sheet_61_1 : bok m_X_sheet 61 b_X_sheet_61_1 = true := by decide +kernel
def b_X_sheet_43_1 : List Ins := [(.iload_n 3, 0, 0, 0)]
theorem k_X_sheet_43_1 : bok m_X_sheet 43 b_X_sheet_43_1 = true := by decide +kernel
def b_X_sheet_47_1 : List Ins := [(.bipush (-14), 0, 0, 0)]
theorem k_X_sheet_47_1 : bok m_X_sheet 47 b_X_sheet_47_1 = true := by decide +kernel
def b_X_sheet_30_2 : List Ins := [(.iload_n 3, 0, 0, 0), (.bipush (40), 0, 0, 0)]
theorem k_X_sheet_30_2 : bok m_X_sheet 30 b_X_sheet_30_2 = true := by decide +kernel
def b_X_sheet_36_1 : List Ins := [(.iconst (-1), 0, 0, 0)]
theorem k_X_sheet_36_1 : bok m_X_sheet 36 b_X_sheet_36_1 = true := by decide +kernel
def b_X_sheet_16_1 : List Ins := [(.iload_n 2, 0, 0, 0)]
theorem k_X_sheet_16_1 : bok m_X_sheet 16 b_X_sheet_16_1 = true := by decide +kernel
theorem d_X_sheet_5 : decode m_X_sheet.2.1 5 = .ok (.invokevirtual 236, 3) := by decide +kernel
theorem d_X_sheet_8 : decode m_X_sheet.2.1 8 = .ok (.ifCond .eq (15), 3) := by decide +kernel
theorem d_X_sheet_24 : decode m_X_sheet.2.1 24 = .ok (.ireturn, 1) := by decide +kernel
theorem d_X_sheet_13 : decode m_X_sheet.2.1 13 = .ok (.if_icmp .eq (12), 3) := by decide +kernel
theorem d_X_sheet_27 : decode m_X_sheet.2.1 27 = .ok (.if_icmp .eq (11), 3) := by decide +kernel
theorem d_X_sheet_40 : decode m_X_sheet.2.1 40 = .ok (.if_icmp .eq (10), 3) := by decide +kernel
theorem d_X_sheet_58 : decode m_X_sheet.2.1 58 = .ok (.if_icmp .ne (7), 3) := by decide +kernel
theorem d_X_sheet_66 : decode m_X_sheet.2.1 66 = .ok (.invokevirtual 242, 3) := by decide +kernel
theorem d_X_sheet_70 : decode m_X_sheet.2.1 70 = .ok (.ireturn, 1) := by decide +kernel
theorem d_X_sheet_62 : decode m_X_sheet.2.1 62 = .ok (.goto (4), 3) := by decide +kernel
theorem d_X_sheet_44 : decode m_X_sheet.2.1 44 = .ok (.ifCond .ge (6), 3) := by decide +kernel
theorem d_X_sheet_49 : decode m_X_sheet.2.1 49 = .ok (.ireturn, 1) := by decide +kernel
theorem d_X_sheet_33 : decode m_X_sheet.2.1 33 = .ok (.if_icmp .le (5), 3) := by decide +kernel
theorem d_X_sheet_37 : decode m_X_sheet.2.1 37 = .ok (.ireturn, 1) := by decide +kernel
theorem d_X_sheet_17 : decode m_X_sheet.2.1 17 = .ok (.invokestatic 239, 3) := by decide +kernel
theorem d_X_sheet_20 : decode m_X_sheet.2.1 20 = .ok (.ifCond .ne (5), 3) := by decide +kernel
def f_X_sheet  (S : hs) (x1 : Int32) (x2 : Int32) (x3 : Int32) : Option (Int32 × hs) := bd (f_H_hasSheet  S x1) fun r1 S2 => (if r1 = 0 then some ((-1 : Int32), S2) else (if x2 = (-1 : Int32) then (if x2 = (-1 : Int32) then (if x2 = (-1 : Int32) then (if x2 = (-1 : Int32) then bd (f_H_lay  S2 x1 x2 (0 : Int32)) fun r12 S13 => some ((1 : Int32), S13) else bd (f_H_lay  S2 x1 x2 x3) fun r9 S10 => some ((1 : Int32), S10)) else (if 0 ≤ x3 then (if x2 = (-1 : Int32) then bd (f_H_lay  S2 x1 x2 (0 : Int32)) fun r20 S21 => some ((1 : Int32), S21) else bd (f_H_lay  S2 x1 x2 x3) fun r17 S18 => some ((1 : Int32), S18)) else some ((-14 : Int32), S2))) else (if x3 ≤ (40 : Int32) then (if x2 = (-1 : Int32) then (if x2 = (-1 : Int32) then bd (f_H_lay  S2 x1 x2 (0 : Int32)) fun r29 S30 => some ((1 : Int32), S30) else bd (f_H_lay  S2 x1 x2 x3) fun r26 S27 => some ((1 : Int32), S27)) else (if 0 ≤ x3 then (if x2 = (-1 : Int32) then bd (f_H_lay  S2 x1 x2 (0 : Int32)) fun r37 S38 => some ((1 : Int32), S38) else bd (f_H_lay  S2 x1 x2 x3) fun r34 S35 => some ((1 : Int32), S35)) else some ((-14 : Int32), S2))) else some ((-1 : Int32), S2))) else bd (f_X_isSort  S2 x2) fun r40 S41 => (if r40 = 0 then some ((-1 : Int32), S41) else (if x2 = (-1 : Int32) then (if x2 = (-1 : Int32) then (if x2 = (-1 : Int32) then bd (f_H_lay  S41 x1 x2 (0 : Int32)) fun r50 S51 => some ((1 : Int32), S51) else bd (f_H_lay  S41 x1 x2 x3) fun r47 S48 => some ((1 : Int32), S48)) else (if 0 ≤ x3 then (if x2 = (-1 : Int32) then bd (f_H_lay  S41 x1 x2 (0 : Int32)) fun r58 S59 => some ((1 : Int32), S59) else bd (f_H_lay  S41 x1 x2 x3) fun r55 S56 => some ((1 : Int32), S56)) else some ((-14 : Int32), S41))) else (if x3 ≤ (40 : Int32) then (if x2 = (-1 : Int32) then (if x2 = (-1 : Int32) then bd (f_H_lay  S41 x1 x2 (0 : Int32)) fun r67 S68 => some ((1 : Int32), S68) else bd (f_H_lay  S41 x1 x2 x3) fun r64 S65 => some ((1 : Int32), S65)) else (if 0 ≤ x3 then (if x2 = (-1 : Int32) then bd (f_H_lay  S41 x1 x2 (0 : Int32)) fun r75 S76 => some ((1 : Int32), S76) else bd (f_H_lay  S41 x1 x2 x3) fun r72 S73 => some ((1 : Int32), S73)) else some ((-14 : Int32), S41))) else some ((-1 : Int32), S41))))))
theorem c_X_sheet (w : Wd) (d : Nat) (c : cx)   (S : hs) (x1 : Int32) (x2 : Int32) (x3 : Int32)  {z : Int32 × hs} (H : f_X_sheet S x1 x2 x3 = some z) : Cl w (d + 3) m_X_sheet [.ref 33, .int x1, .int x2, .int x3] (mk c S) (some (.int z.1)) (mk c z.2) := by
  refine Cl.of (Nat.le_refl _) (Nat.le_refl _) (by decide +kernel) (Nat.le_of_ble_eq_true rfl) ?_
  unfold f_X_sheet at H
  generalize hN (mk c S) = n0
  generalize hZ (mk c S) = z0
  show J w (d + 3) m_X_sheet (n0, z0, some (.int z.1), mk c z.2) 0 [some (.ref 33), some (.int x1), some (.int x2), some (.int x3)] [] (mk c S)
  refine J.run b_X_sheet_0_3 k_X_sheet_0_3 rfl (And.intro (okO_st (S := S) rfl) (show J w (d + 3) m_X_sheet (n0, z0, some (.int z.1), mk c z.2) 5 [some (.ref 33), some (.int x1), some (.int x2), some (.int x3)] [.int x1, .ref 159] (mk c S) from ?_))
  obtain ⟨r1, S2, h3, H⟩ := bd_e H
  refine J.callV (y := m_H_hasSheet) (av := [.int x1]) (rest := []) (q := 159) l_X_236 d_X_sheet_5 (isC_st rfl rfl) (c_H_hasSheet w (d + 1) c  S x1 h3) rfl (Nat.le_of_ble_eq_true rfl) ⟨Nat.le_refl _, Nat.le_refl _⟩ (show J w (d + 3) m_X_sheet (n0, z0, some (.int z.1), mk c z.2) 8 [some (.ref 33), some (.int x1), some (.int x2), some (.int x3)] [.int r1] (mk c S2) from ?_)
  refine J.zeq (tgt := 23) d_X_sheet_8 rfl (fun q4 => ?_) (fun q4 => ?_)
  · have H := ite_t H q4
    refine J.run b_X_sheet_23_1 k_X_sheet_23_1 rfl (show J w (d + 3) m_X_sheet (n0, z0, some (.int z.1), mk c z.2) 24 [some (.ref 33), some (.int x1), some (.int x2), some (.int x3)] [.int (-1 : Int32)] (mk c S2) from ?_)
    obtain rfl := some_e H
    exact J.iret d_X_sheet_24 rfl rfl
  · have H := ite_f H q4
    refine J.run b_X_sheet_11_2 k_X_sheet_11_2 rfl (show J w (d + 3) m_X_sheet (n0, z0, some (.int z.1), mk c z.2) 13 [some (.ref 33), some (.int x1), some (.int x2), some (.int x3)] [.int (-1 : Int32), .int x2] (mk c S2) from ?_)
    refine J.ceq (tgt := 25) d_X_sheet_13 rfl (fun q5 => ?_) (fun q5 => ?_)
    · have H := ite_t H q5
      refine J.run b_X_sheet_25_2 k_X_sheet_25_2 rfl (show J w (d + 3) m_X_sheet (n0, z0, some (.int z.1), mk c z.2) 27 [some (.ref 33), some (.int x1), some (.int x2), some (.int x3)] [.int (-1 : Int32), .int x2] (mk c S2) from ?_)
      refine J.ceq (tgt := 38) d_X_sheet_27 rfl (fun q6 => ?_) (fun q6 => ?_)
      · have H := ite_t H q6
        refine J.run b_X_sheet_38_2 k_X_sheet_38_2 rfl (show J w (d + 3) m_X_sheet (n0, z0, some (.int z.1), mk c z.2) 40 [some (.ref 33), some (.int x1), some (.int x2), some (.int x3)] [.int (-1 : Int32), .int x2] (mk c S2) from ?_)
        refine J.ceq (tgt := 50) d_X_sheet_40 rfl (fun q7 => ?_) (fun q7 => ?_)
        · have H := ite_t H q7
          refine J.run b_X_sheet_50_6 k_X_sheet_50_6 rfl (And.intro (okO_st (S := S2) rfl) (show J w (d + 3) m_X_sheet (n0, z0, some (.int z.1), mk c z.2) 58 [some (.ref 33), some (.int x1), some (.int x2), some (.int x3)] [.int (-1 : Int32), .int x2, .int x2, .int x1, .ref 159] (mk c S2) from ?_))
          refine J.cne (tgt := 65) d_X_sheet_58 rfl (fun q8 => ?_) (fun q8 => ?_)
          · have H := ite_f H q8
            refine J.run b_X_sheet_65_1 k_X_sheet_65_1 rfl (show J w (d + 3) m_X_sheet (n0, z0, some (.int z.1), mk c z.2) 66 [some (.ref 33), some (.int x1), some (.int x2), some (.int x3)] [.int x3, .int x2, .int x1, .ref 159] (mk c S2) from ?_)
            obtain ⟨r9, S10, h11, H⟩ := bd_e H
            refine J.callV (y := m_H_lay) (av := [.int x1, .int x2, .int x3]) (rest := []) (q := 159) l_X_242 d_X_sheet_66 (isC_st rfl rfl) (c_H_lay w (d + 0) c  S2 x1 x2 x3 h11) rfl (Nat.le_of_ble_eq_true rfl) ⟨Nat.le_refl _, Nat.le_refl _⟩ (show J w (d + 3) m_X_sheet (n0, z0, some (.int z.1), mk c z.2) 69 [some (.ref 33), some (.int x1), some (.int x2), some (.int x3)] [] (mk c S10) from ?_)
            refine J.run b_X_sheet_69_1 k_X_sheet_69_1 rfl (show J w (d + 3) m_X_sheet (n0, z0, some (.int z.1), mk c z.2) 70 [some (.ref 33), some (.int x1), some (.int x2), some (.int x3)] [.int (1 : Int32)] (mk c S10) from ?_)
            obtain rfl := some_e H
            exact J.iret d_X_sheet_70 rfl rfl
          · have H := ite_t H q8
            refine J.run b_X_sheet_61_1 k_X_sheet_61_1 rfl (show J w (d + 3) m_X_sheet (n0, z0, some (.int z.1), mk c z.2) 62 [some (.ref 33), some (.int x1), some (.int x2), some (.int x3)] [.int (0 : Int32), .int x2, .int x1, .ref 159] (mk c S2) from ?_)
            refine J.goto (tgt := 66) d_X_sheet_62 rfl ?_
            obtain ⟨r12, S13, h14, H⟩ := bd_e H
            refine J.callV (y := m_H_lay) (av := [.int x1, .int x2, .int (0 : Int32)]) (rest := []) (q := 159) l_X_242 d_X_sheet_66 (isC_st rfl rfl) (c_H_lay w (d + 0) c  S2 x1 x2 (0 : Int32) h14) rfl (Nat.le_of_ble_eq_true rfl) ⟨Nat.le_refl _, Nat.le_refl _⟩ (show J w (d + 3) m_X_sheet (n0, z0, some (.int z.1), mk c z.2) 69 [some (.ref 33), some (.int x1), some (.int x2), some (.int x3)] [] (mk c S13) from ?_)
            refine J.run b_X_sheet_69_1 k_X_sheet_69_1 rfl (show J w (d + 3) m_X_sheet (n0, z0, some (.int z.1), mk c z.2) 70 [some (.ref 33), some (.int x1), some (.int x2), some (.int x3)] [.int (1 : Int32)] (mk c S13) from ?_)
            obtain rfl := some_e H
            exact J.iret d_X_sheet_70 rfl rfl
        · have H := ite_f H q7
          refine J.run b_X_sheet_43_1 k_X_sheet_43_1 rfl (show J w (d + 3) m_X_sheet (n0, z0, some (.int z.1), mk c z.2) 44 [some (.ref 33), some (.int x1), some (.int x2), some (.int x3)] [.int x3] (mk c S2) from ?_)
          refine J.zge (tgt := 50) d_X_sheet_44 rfl (fun q15 => ?_) (fun q15 => ?_)
          · have H := ite_t H q15
            refine J.run b_X_sheet_50_6 k_X_sheet_50_6 rfl (And.intro (okO_st (S := S2) rfl) (show J w (d + 3) m_X_sheet (n0, z0, some (.int z.1), mk c z.2) 58 [some (.ref 33), some (.int x1), some (.int x2), some (.int x3)] [.int (-1 : Int32), .int x2, .int x2, .int x1, .ref 159] (mk c S2) from ?_))
            refine J.cne (tgt := 65) d_X_sheet_58 rfl (fun q16 => ?_) (fun q16 => ?_)
            · have H := ite_f H q16
              refine J.run b_X_sheet_65_1 k_X_sheet_65_1 rfl (show J w (d + 3) m_X_sheet (n0, z0, some (.int z.1), mk c z.2) 66 [some (.ref 33), some (.int x1), some (.int x2), some (.int x3)] [.int x3, .int x2, .int x1, .ref 159] (mk c S2) from ?_)
              obtain ⟨r17, S18, h19, H⟩ := bd_e H
              refine J.callV (y := m_H_lay) (av := [.int x1, .int x2, .int x3]) (rest := []) (q := 159) l_X_242 d_X_sheet_66 (isC_st rfl rfl) (c_H_lay w (d + 0) c  S2 x1 x2 x3 h19) rfl (Nat.le_of_ble_eq_true rfl) ⟨Nat.le_refl _, Nat.le_refl _⟩ (show J w (d + 3) m_X_sheet (n0, z0, some (.int z.1), mk c z.2) 69 [some (.ref 33), some (.int x1), some (.int x2), some (.int x3)] [] (mk c S18) from ?_)
              refine J.run b_X_sheet_69_1 k_X_sheet_69_1 rfl (show J w (d + 3) m_X_sheet (n0, z0, some (.int z.1), mk c z.2) 70 [some (.ref 33), some (.int x1), some (.int x2), some (.int x3)] [.int (1 : Int32)] (mk c S18) from ?_)
              obtain rfl := some_e H
              exact J.iret d_X_sheet_70 rfl rfl
            · have H := ite_t H q16
              refine J.run b_X_sheet_61_1 k_X_sheet_61_1 rfl (show J w (d + 3) m_X_sheet (n0, z0, some (.int z.1), mk c z.2) 62 [some (.ref 33), some (.int x1), some (.int x2), some (.int x3)] [.int (0 : Int32), .int x2, .int x1, .ref 159] (mk c S2) from ?_)
              refine J.goto (tgt := 66) d_X_sheet_62 rfl ?_
              obtain ⟨r20, S21, h22, H⟩ := bd_e H
              refine J.callV (y := m_H_lay) (av := [.int x1, .int x2, .int (0 : Int32)]) (rest := []) (q := 159) l_X_242 d_X_sheet_66 (isC_st rfl rfl) (c_H_lay w (d + 0) c  S2 x1 x2 (0 : Int32) h22) rfl (Nat.le_of_ble_eq_true rfl) ⟨Nat.le_refl _, Nat.le_refl _⟩ (show J w (d + 3) m_X_sheet (n0, z0, some (.int z.1), mk c z.2) 69 [some (.ref 33), some (.int x1), some (.int x2), some (.int x3)] [] (mk c S21) from ?_)
              refine J.run b_X_sheet_69_1 k_X_sheet_69_1 rfl (show J w (d + 3) m_X_sheet (n0, z0, some (.int z.1), mk c z.2) 70 [some (.ref 33), some (.int x1), some (.int x2), some (.int x3)] [.int (1 : Int32)] (mk c S21) from ?_)
              obtain rfl := some_e H
              exact J.iret d_X_sheet_70 rfl rfl
          · have H := ite_f H q15
            refine J.run b_X_sheet_47_1 k_X_sheet_47_1 rfl (show J w (d + 3) m_X_sheet (n0, z0, some (.int z.1), mk c z.2) 49 [some (.ref 33), some (.int x1), some (.int x2), some (.int x3)] [.int (-14 : Int32)] (mk c S2) from ?_)
            obtain rfl := some_e H
            exact J.iret d_X_sheet_49 rfl rfl
      · have H := ite_f H q6
        refine J.run b_X_sheet_30_2 k_X_sheet_30_2 rfl (show J w (d + 3) m_X_sheet (n0, z0, some (.int z.1), mk c z.2) 33 [some (.ref 33), some (.int x1), some (.int x2), some (.int x3)] [.int (40 : Int32), .int x3] (mk c S2) from ?_)
        refine J.cle (tgt := 38) d_X_sheet_33 rfl (fun q23 => ?_) (fun q23 => ?_)
        · have H := ite_t H q23
          refine J.run b_X_sheet_38_2 k_X_sheet_38_2 rfl (show J w (d + 3) m_X_sheet (n0, z0, some (.int z.1), mk c z.2) 40 [some (.ref 33), some (.int x1), some (.int x2), some (.int x3)] [.int (-1 : Int32), .int x2] (mk c S2) from ?_)
          refine J.ceq (tgt := 50) d_X_sheet_40 rfl (fun q24 => ?_) (fun q24 => ?_)
          · have H := ite_t H q24
            refine J.run b_X_sheet_50_6 k_X_sheet_50_6 rfl (And.intro (okO_st (S := S2) rfl) (show J w (d + 3) m_X_sheet (n0, z0, some (.int z.1), mk c z.2) 58 [some (.ref 33), some (.int x1), some (.int x2), some (.int x3)] [.int (-1 : Int32), .int x2, .int x2, .int x1, .ref 159] (mk c S2) from ?_))
            refine J.cne (tgt := 65) d_X_sheet_58 rfl (fun q25 => ?_) (fun q25 => ?_)
            · have H := ite_f H q25
              refine J.run b_X_sheet_65_1 k_X_sheet_65_1 rfl (show J w (d + 3) m_X_sheet (n0, z0, some (.int z.1), mk c z.2) 66 [some (.ref 33), some (.int x1), some (.int x2), some (.int x3)] [.int x3, .int x2, .int x1, .ref 159] (mk c S2) from ?_)
              obtain ⟨r26, S27, h28, H⟩ := bd_e H
              refine J.callV (y := m_H_lay) (av := [.int x1, .int x2, .int x3]) (rest := []) (q := 159) l_X_242 d_X_sheet_66 (isC_st rfl rfl) (c_H_lay w (d + 0) c  S2 x1 x2 x3 h28) rfl (Nat.le_of_ble_eq_true rfl) ⟨Nat.le_refl _, Nat.le_refl _⟩ (show J w (d + 3) m_X_sheet (n0, z0, some (.int z.1), mk c z.2) 69 [some (.ref 33), some (.int x1), some (.int x2), some (.int x3)] [] (mk c S27) from ?_)
              refine J.run b_X_sheet_69_1 k_X_sheet_69_1 rfl (show J w (d + 3) m_X_sheet (n0, z0, some (.int z.1), mk c z.2) 70 [some (.ref 33), some (.int x1), some (.int x2), some (.int x3)] [.int (1 : Int32)] (mk c S27) from ?_)
              obtain rfl := some_e H
              exact J.iret d_X_sheet_70 rfl rfl
            · have H := ite_t H q25
              refine J.run b_X_sheet_61_1 k_X_sheet_61_1 rfl (show J w (d + 3) m_X_sheet (n0, z0, some (.int z.1), mk c z.2) 62 [some (.ref 33), some (.int x1), some (.int x2), some (.int x3)] [.int (0 : Int32), .int x2, .int x1, .ref 159] (mk c S2) from ?_)
              refine J.goto (tgt := 66) d_X_sheet_62 rfl ?_
              obtain ⟨r29, S30, h31, H⟩ := bd_e H
              refine J.callV (y := m_H_lay) (av := [.int x1, .int x2, .int (0 : Int32)]) (rest := []) (q := 159) l_X_242 d_X_sheet_66 (isC_st rfl rfl) (c_H_lay w (d + 0) c  S2 x1 x2 (0 : Int32) h31) rfl (Nat.le_of_ble_eq_true rfl) ⟨Nat.le_refl _, Nat.le_refl _⟩ (show J w (d + 3) m_X_sheet (n0, z0, some (.int z.1), mk c z.2) 69 [some (.ref 33), some (.int x1), some (.int x2), some (.int x3)] [] (mk c S30) from ?_)
              refine J.run b_X_sheet_69_1 k_X_sheet_69_1 rfl (show J w (d + 3) m_X_sheet (n0, z0, some (.int z.1), mk c z.2) 70 [some (.ref 33), some (.int x1), some (.int x2), some (.int x3)] [.int (1 : Int32)] (mk c S30) from ?_)
              obtain rfl := some_e H
              exact J.iret d_X_sheet_70 rfl rfl
          · have H := ite_f H q24
            refine J.run b_X_sheet_43_1 k_X_sheet_43_1 rfl (show J w (d + 3) m_X_sheet (n0, z0, some (.int z.1), mk c z.2) 44 [some (.ref 33), some (.int x1), some (.int x2), some (.int x3)] [.int x3] (mk c S2) from ?_)
            refine J.zge (tgt := 50) d_X_sheet_44 rfl (fun q32 => ?_) (fun q32 => ?_)
            · have H := ite_t H q32
              refine J.run b_X_sheet_50_6 k_X_sheet_50_6 rfl (And.intro (okO_st (S := S2) rfl) (show J w (d + 3) m_X_sheet (n0, z0, some (.int z.1), mk c z.2) 58 [some (.ref 33), some (.int x1), some (.int x2), some (.int x3)] [.int (-1 : Int32), .int x2, .int x2, .int x1, .ref 159] (mk c S2) from ?_))
              refine J.cne (tgt := 65) d_X_sheet_58 rfl (fun q33 => ?_) (fun q33 => ?_)
              · have H := ite_f H q33
                refine J.run b_X_sheet_65_1 k_X_sheet_65_1 rfl (show J w (d + 3) m_X_sheet (n0, z0, some (.int z.1), mk c z.2) 66 [some (.ref 33), some (.int x1), some (.int x2), some (.int x3)] [.int x3, .int x2, .int x1, .ref 159] (mk c S2) from ?_)
                obtain ⟨r34, S35, h36, H⟩ := bd_e H
                refine J.callV (y := m_H_lay) (av := [.int x1, .int x2, .int x3]) (rest := []) (q := 159) l_X_242 d_X_sheet_66 (isC_st rfl rfl) (c_H_lay w (d + 0) c  S2 x1 x2 x3 h36) rfl (Nat.le_of_ble_eq_true rfl) ⟨Nat.le_refl _, Nat.le_refl _⟩ (show J w (d + 3) m_X_sheet (n0, z0, some (.int z.1), mk c z.2) 69 [some (.ref 33), some (.int x1), some (.int x2), some (.int x3)] [] (mk c S35) from ?_)
                refine J.run b_X_sheet_69_1 k_X_sheet_69_1 rfl (show J w (d + 3) m_X_sheet (n0, z0, some (.int z.1), mk c z.2) 70 [some (.ref 33), some (.int x1), some (.int x2), some (.int x3)] [.int (1 : Int32)] (mk c S35) from ?_)
                obtain rfl := some_e H
                exact J.iret d_X_sheet_70 rfl rfl
              · have H := ite_t H q33
                refine J.run b_X_sheet_61_1 k_X_sheet_61_1 rfl (show J w (d + 3) m_X_sheet (n0, z0, some (.int z.1), mk c z.2) 62 [some (.ref 33), some (.int x1), some (.int x2), some (.int x3)] [.int (0 : Int32), .int x2, .int x1, .ref 159] (mk c S2) from ?_)
                refine J.goto (tgt := 66) d_X_sheet_62 rfl ?_
                obtain ⟨r37, S38, h39, H⟩ := bd_e H
                refine J.callV (y := m_H_lay) (av := [.int x1, .int x2, .int (0 : Int32)]) (rest := []) (q := 159) l_X_242 d_X_sheet_66 (isC_st rfl rfl) (c_H_lay w (d + 0) c  S2 x1 x2 (0 : Int32) h39) rfl (Nat.le_of_ble_eq_true rfl) ⟨Nat.le_refl _, Nat.le_refl _⟩ (show J w (d + 3) m_X_sheet (n0, z0, some (.int z.1), mk c z.2) 69 [some (.ref 33), some (.int x1), some (.int x2), some (.int x3)] [] (mk c S38) from ?_)
                refine J.run b_X_sheet_69_1 k_X_sheet_69_1 rfl (show J w (d + 3) m_X_sheet (n0, z0, some (.int z.1), mk c z.2) 70 [some (.ref 33), some (.int x1), some (.int x2), some (.int x3)] [.int (1 : Int32)] (mk c S38) from ?_)
                obtain rfl := some_e H
                exact J.iret d_X_sheet_70 rfl rfl
            · have H := ite_f H q32
              refine J.run b_X_sheet_47_1 k_X_sheet_47_1 rfl (show J w (d + 3) m_X_sheet (n0, z0, some (.int z.1), mk c z.2) 49 [some (.ref 33), some (.int x1), some (.int x2), some (.int x3)] [.int (-14 : Int32)] (mk c S2) from ?_)
              obtain rfl := some_e H
              exact J.iret d_X_sheet_49 rfl rfl
        · have H := ite_f H q23
          refine J.run b_X_sheet_36_1 k_X_sheet_36_1 rfl (show J w (d + 3) m_X_sheet (n0, z0, some (.int z.1), mk c z.2) 37 [some (.ref 33), some (.int x1), some (.int x2), some (.int x3)] [.int (-1 : Int32)] (mk c S2) from ?_)
          obtain rfl := some_e H
          exact J.iret d_X_sheet_37 rfl rfl
    · have H := ite_f H q5
      refine J.run b_X_sheet_16_1 k_X_sheet_16_1 rfl (show J w (d + 3) m_X_sheet (n0, z0, some (.int z.1), mk c z.2) 17 [some (.ref 33), some (.int x1), some (.int x2), some (.int x3)] [.int x2] (mk c S2) from ?_)
      obtain ⟨r40, S41, h42, H⟩ := bd_e H
      refine J.callS (y := m_X_isSort) (av := [.int x2]) (rest := []) l_X_239 d_X_sheet_17 (c_X_isSort w (d + 1) c  S2 x2 h42) rfl (Nat.le_of_ble_eq_true rfl) ⟨Nat.le_refl _, Nat.le_refl _⟩ (show J w (d + 3) m_X_sheet (n0, z0, some (.int z.1), mk c z.2) 20 [some (.ref 33), some (.int x1), some (.int x2), some (.int x3)] [.int r40] (mk c S41) from ?_)
      refine J.zne (tgt := 25) d_X_sheet_20 rfl (fun q43 => ?_) (fun q43 => ?_)
      · have H := ite_f H q43
        refine J.run b_X_sheet_25_2 k_X_sheet_25_2 rfl (show J w (d + 3) m_X_sheet (n0, z0, some (.int z.1), mk c z.2) 27 [some (.ref 33), some (.int x1), some (.int x2), some (.int x3)] [.int (-1 : Int32), .int x2] (mk c S41) from ?_)
        refine J.ceq (tgt := 38) d_X_sheet_27 rfl (fun q44 => ?_) (fun q44 => ?_)
        · have H := ite_t H q44
          refine J.run b_X_sheet_38_2 k_X_sheet_38_2 rfl (show J w (d + 3) m_X_sheet (n0, z0, some (.int z.1), mk c z.2) 40 [some (.ref 33), some (.int x1), some (.int x2), some (.int x3)] [.int (-1 : Int32), .int x2] (mk c S41) from ?_)
          refine J.ceq (tgt := 50) d_X_sheet_40 rfl (fun q45 => ?_) (fun q45 => ?_)
          · have H := ite_t H q45
            refine J.run b_X_sheet_50_6 k_X_sheet_50_6 rfl (And.intro (okO_st (S := S41) rfl) (show J w (d + 3) m_X_sheet (n0, z0, some (.int z.1), mk c z.2) 58 [some (.ref 33), some (.int x1), some (.int x2), some (.int x3)] [.int (-1 : Int32), .int x2, .int x2, .int x1, .ref 159] (mk c S41) from ?_))
            refine J.cne (tgt := 65) d_X_sheet_58 rfl (fun q46 => ?_) (fun q46 => ?_)
            · have H := ite_f H q46
              refine J.run b_X_sheet_65_1 k_X_sheet_65_1 rfl (show J w (d + 3) m_X_sheet (n0, z0, some (.int z.1), mk c z.2) 66 [some (.ref 33), some (.int x1), some (.int x2), some (.int x3)] [.int x3, .int x2, .int x1, .ref 159] (mk c S41) from ?_)
              obtain ⟨r47, S48, h49, H⟩ := bd_e H
              refine J.callV (y := m_H_lay) (av := [.int x1, .int x2, .int x3]) (rest := []) (q := 159) l_X_242 d_X_sheet_66 (isC_st rfl rfl) (c_H_lay w (d + 0) c  S41 x1 x2 x3 h49) rfl (Nat.le_of_ble_eq_true rfl) ⟨Nat.le_refl _, Nat.le_refl _⟩ (show J w (d + 3) m_X_sheet (n0, z0, some (.int z.1), mk c z.2) 69 [some (.ref 33), some (.int x1), some (.int x2), some (.int x3)] [] (mk c S48) from ?_)
              refine J.run b_X_sheet_69_1 k_X_sheet_69_1 rfl (show J w (d + 3) m_X_sheet (n0, z0, some (.int z.1), mk c z.2) 70 [some (.ref 33), some (.int x1), some (.int x2), some (.int x3)] [.int (1 : Int32)] (mk c S48) from ?_)
              obtain rfl := some_e H
              exact J.iret d_X_sheet_70 rfl rfl
            · have H := ite_t H q46
              refine J.run b_X_sheet_61_1 k_X_sheet_61_1 rfl (show J w (d + 3) m_X_sheet (n0, z0, some (.int z.1), mk c z.2) 62 [some (.ref 33), some (.int x1), some (.int x2), some (.int x3)] [.int (0 : Int32), .int x2, .int x1, .ref 159] (mk c S41) from ?_)
              refine J.goto (tgt := 66) d_X_sheet_62 rfl ?_
              obtain ⟨r50, S51, h52, H⟩ := bd_e H
              refine J.callV (y := m_H_lay) (av := [.int x1, .int x2, .int (0 : Int32)]) (rest := []) (q := 159) l_X_242 d_X_sheet_66 (isC_st rfl rfl) (c_H_lay w (d + 0) c  S41 x1 x2 (0 : Int32) h52) rfl (Nat.le_of_ble_eq_true rfl) ⟨Nat.le_refl _, Nat.le_refl _⟩ (show J w (d + 3) m_X_sheet (n0, z0, some (.int z.1), mk c z.2) 69 [some (.ref 33), some (.int x1), some (.int x2), some (.int x3)] [] (mk c S51) from ?_)
              refine J.run b_X_sheet_69_1 k_X_sheet_69_1 rfl (show J w (d + 3) m_X_sheet (n0, z0, some (.int z.1), mk c z.2) 70 [some (.ref 33), some (.int x1), some (.int x2), some (.int x3)] [.int (1 : Int32)] (mk c S51) from ?_)
              obtain rfl := some_e H
              exact J.iret d_X_sheet_70 rfl rfl
          · have H := ite_f H q45
            refine J.run b_X_sheet_43_1 k_X_sheet_43_1 rfl (show J w (d + 3) m_X_sheet (n0, z0, some (.int z.1), mk c z.2) 44 [some (.ref 33), some (.int x1), some (.int x2), some (.int x3)] [.int x3] (mk c S41) from ?_)
            refine J.zge (tgt := 50) d_X_sheet_44 rfl (fun q53 => ?_) (fun q53 => ?_)
            · have H := ite_t H q53
              refine J.run b_X_sheet_50_6 k_X_sheet_50_6 rfl (And.intro (okO_st (S := S41) rfl) (show J w (d + 3) m_X_sheet (n0, z0, some (.int z.1), mk c z.2) 58 [some (.ref 33), some (.int x1), some (.int x2), some (.int x3)] [.int (-1 : Int32), .int x2, .int x2, .int x1, .ref 159] (mk c S41) from ?_))
              refine J.cne (tgt := 65) d_X_sheet_58 rfl (fun q54 => ?_) (fun q54 => ?_)
              · have H := ite_f H q54
                refine J.run b_X_sheet_65_1 k_X_sheet_65_1 rfl (show J w (d + 3) m_X_sheet (n0, z0, some (.int z.1), mk c z.2) 66 [some (.ref 33), some (.int x1), some (.int x2), some (.int x3)] [.int x3, .int x2, .int x1, .ref 159] (mk c S41) from ?_)
                obtain ⟨r55, S56, h57, H⟩ := bd_e H
                refine J.callV (y := m_H_lay) (av := [.int x1, .int x2, .int x3]) (rest := []) (q := 159) l_X_242 d_X_sheet_66 (isC_st rfl rfl) (c_H_lay w (d + 0) c  S41 x1 x2 x3 h57) rfl (Nat.le_of_ble_eq_true rfl) ⟨Nat.le_refl _, Nat.le_refl _⟩ (show J w (d + 3) m_X_sheet (n0, z0, some (.int z.1), mk c z.2) 69 [some (.ref 33), some (.int x1), some (.int x2), some (.int x3)] [] (mk c S56) from ?_)
                refine J.run b_X_sheet_69_1 k_X_sheet_69_1 rfl (show J w (d + 3) m_X_sheet (n0, z0, some (.int z.1), mk c z.2) 70 [some (.ref 33), some (.int x1), some (.int x2), some (.int x3)] [.int (1 : Int32)] (mk c S56) from ?_)
                obtain rfl := some_e H
                exact J.iret d_X_sheet_70 rfl rfl
              · have H := ite_t H q54
                refine J.run b_X_sheet_61_1 k_X_sheet_61_1 rfl (show J w (d + 3) m_X_sheet (n0, z0, some (.int z.1), mk c z.2) 62 [some (.ref 33), some (.int x1), some (.int x2), some (.int x3)] [.int (0 : Int32), .int x2, .int x1, .ref 159] (mk c S41) from ?_)
                refine J.goto (tgt := 66) d_X_sheet_62 rfl ?_
                obtain ⟨r58, S59, h60, H⟩ := bd_e H
                refine J.callV (y := m_H_lay) (av := [.int x1, .int x2, .int (0 : Int32)]) (rest := []) (q := 159) l_X_242 d_X_sheet_66 (isC_st rfl rfl) (c_H_lay w (d + 0) c  S41 x1 x2 (0 : Int32) h60) rfl (Nat.le_of_ble_eq_true rfl) ⟨Nat.le_refl _, Nat.le_refl _⟩ (show J w (d + 3) m_X_sheet (n0, z0, some (.int z.1), mk c z.2) 69 [some (.ref 33), some (.int x1), some (.int x2), some (.int x3)] [] (mk c S59) from ?_)
                refine J.run b_X_sheet_69_1 k_X_sheet_69_1 rfl (show J w (d + 3) m_X_sheet (n0, z0, some (.int z.1), mk c z.2) 70 [some (.ref 33), some (.int x1), some (.int x2), some (.int x3)] [.int (1 : Int32)] (mk c S59) from ?_)
                obtain rfl := some_e H
                exact J.iret d_X_sheet_70 rfl rfl
            · have H := ite_f H q53
              refine J.run b_X_sheet_47_1 k_X_sheet_47_1 rfl (show J w (d + 3) m_X_sheet (n0, z0, some (.int z.1), mk c z.2) 49 [some (.ref 33), some (.int x1), some (.int x2), some (.int x3)] [.int (-14 : Int32)] (mk c S41) from ?_)
              obtain rfl := some_e H
              exact J.iret d_X_sheet_49 rfl rfl
        · have H := ite_f H q44
          refine J.run b_X_sheet_30_2 k_X_sheet_30_2 rfl (show J w (d + 3) m_X_sheet (n0, z0, some (.int z.1), mk c z.2) 33 [some (.ref 33), some (.int x1), some (.int x2), some (.int x3)] [.int (40 : Int32), .int x3] (mk c S41) from ?_)
          refine J.cle (tgt := 38) d_X_sheet_33 rfl (fun q61 => ?_) (fun q61 => ?_)
          · have H := ite_t H q61
            refine J.run b_X_sheet_38_2 k_X_sheet_38_2 rfl (show J w (d + 3) m_X_sheet (n0, z0, some (.int z.1), mk c z.2) 40 [some (.ref 33), some (.int x1), some (.int x2), some (.int x3)] [.int (-1 : Int32), .int x2] (mk c S41) from ?_)
            refine J.ceq (tgt := 50) d_X_sheet_40 rfl (fun q62 => ?_) (fun q62 => ?_)
            · have H := ite_t H q62
              refine J.run b_X_sheet_50_6 k_X_sheet_50_6 rfl (And.intro (okO_st (S := S41) rfl) (show J w (d + 3) m_X_sheet (n0, z0, some (.int z.1), mk c z.2) 58 [some (.ref 33), some (.int x1), some (.int x2), some (.int x3)] [.int (-1 : Int32), .int x2, .int x2, .int x1, .ref 159] (mk c S41) from ?_))
              refine J.cne (tgt := 65) d_X_sheet_58 rfl (fun q63 => ?_) (fun q63 => ?_)
              · have H := ite_f H q63
                refine J.run b_X_sheet_65_1 k_X_sheet_65_1 rfl (show J w (d + 3) m_X_sheet (n0, z0, some (.int z.1), mk c z.2) 66 [some (.ref 33), some (.int x1), some (.int x2), some (.int x3)] [.int x3, .int x2, .int x1, .ref 159] (mk c S41) from ?_)
                obtain ⟨r64, S65, h66, H⟩ := bd_e H
                refine J.callV (y := m_H_lay) (av := [.int x1, .int x2, .int x3]) (rest := []) (q := 159) l_X_242 d_X_sheet_66 (isC_st rfl rfl) (c_H_lay w (d + 0) c  S41 x1 x2 x3 h66) rfl (Nat.le_of_ble_eq_true rfl) ⟨Nat.le_refl _, Nat.le_refl _⟩ (show J w (d + 3) m_X_sheet (n0, z0, some (.int z.1), mk c z.2) 69 [some (.ref 33), some (.int x1), some (.int x2), some (.int x3)] [] (mk c S65) from ?_)
                refine J.run b_X_sheet_69_1 k_X_sheet_69_1 rfl (show J w (d + 3) m_X_sheet (n0, z0, some (.int z.1), mk c z.2) 70 [some (.ref 33), some (.int x1), some (.int x2), some (.int x3)] [.int (1 : Int32)] (mk c S65) from ?_)
                obtain rfl := some_e H
                exact J.iret d_X_sheet_70 rfl rfl
              · have H := ite_t H q63
                refine J.run b_X_sheet_61_1 k_X_sheet_61_1 rfl (show J w (d + 3) m_X_sheet (n0, z0, some (.int z.1), mk c z.2) 62 [some (.ref 33), some (.int x1), some (.int x2), some (.int x3)] [.int (0 : Int32), .int x2, .int x1, .ref 159] (mk c S41) from ?_)
                refine J.goto (tgt := 66) d_X_sheet_62 rfl ?_
                obtain ⟨r67, S68, h69, H⟩ := bd_e H
                refine J.callV (y := m_H_lay) (av := [.int x1, .int x2, .int (0 : Int32)]) (rest := []) (q := 159) l_X_242 d_X_sheet_66 (isC_st rfl rfl) (c_H_lay w (d + 0) c  S41 x1 x2 (0 : Int32) h69) rfl (Nat.le_of_ble_eq_true rfl) ⟨Nat.le_refl _, Nat.le_refl _⟩ (show J w (d + 3) m_X_sheet (n0, z0, some (.int z.1), mk c z.2) 69 [some (.ref 33), some (.int x1), some (.int x2), some (.int x3)] [] (mk c S68) from ?_)
                refine J.run b_X_sheet_69_1 k_X_sheet_69_1 rfl (show J w (d + 3) m_X_sheet (n0, z0, some (.int z.1), mk c z.2) 70 [some (.ref 33), some (.int x1), some (.int x2), some (.int x3)] [.int (1 : Int32)] (mk c S68) from ?_)
                obtain rfl := some_e H
                exact J.iret d_X_sheet_70 rfl rfl
            · have H := ite_f H q62
              refine J.run b_X_sheet_43_1 k_X_sheet_43_1 rfl (show J w (d + 3) m_X_sheet (n0, z0, some (.int z.1), mk c z.2) 44 [some (.ref 33), some (.int x1), some (.int x2), some (.int x3)] [.int x3] (mk c S41) from ?_)
              refine J.zge (tgt := 50) d_X_sheet_44 rfl (fun q70 => ?_) (fun q70 => ?_)
              · have H := ite_t H q70
                refine J.run b_X_sheet_50_6 k_X_sheet_50_6 rfl (And.intro (okO_st (S := S41) rfl) (show J w (d + 3) m_X_sheet (n0, z0, some (.int z.1), mk c z.2) 58 [some (.ref 33), some (.int x1), some (.int x2), some (.int x3)] [.int (-1 : Int32), .int x2, .int x2, .int x1, .ref 159] (mk c S41) from ?_))
                refine J.cne (tgt := 65) d_X_sheet_58 rfl (fun q71 => ?_) (fun q71 => ?_)
                · have H := ite_f H q71
                  refine J.run b_X_sheet_65_1 k_X_sheet_65_1 rfl (show J w (d + 3) m_X_sheet (n0, z0, some (.int z.1), mk c z.2) 66 [some (.ref 33), some (.int x1), some (.int x2), some (.int x3)] [.int x3, .int x2, .int x1, .ref 159] (mk c S41) from ?_)
                  obtain ⟨r72, S73, h74, H⟩ := bd_e H
                  refine J.callV (y := m_H_lay) (av := [.int x1, .int x2, .int x3]) (rest := []) (q := 159) l_X_242 d_X_sheet_66 (isC_st rfl rfl) (c_H_lay w (d + 0) c  S41 x1 x2 x3 h74) rfl (Nat.le_of_ble_eq_true rfl) ⟨Nat.le_refl _, Nat.le_refl _⟩ (show J w (d + 3) m_X_sheet (n0, z0, some (.int z.1), mk c z.2) 69 [some (.ref 33), some (.int x1), some (.int x2), some (.int x3)] [] (mk c S73) from ?_)
                  refine J.run b_X_sheet_69_1 k_X_sheet_69_1 rfl (show J w (d + 3) m_X_sheet (n0, z0, some (.int z.1), mk c z.2) 70 [some (.ref 33), some (.int x1), some (.int x2), some (.int x3)] [.int (1 : Int32)] (mk c S73) from ?_)
                  obtain rfl := some_e H
                  exact J.iret d_X_sheet_70 rfl rfl
                · have H := ite_t H q71
                  refine J.run b_X_sheet_61_1 k_X_sheet_61_1 rfl (show J w (d + 3) m_X_sheet (n0, z0, some (.int z.1), mk c z.2) 62 [some (.ref 33), some (.int x1), some (.int x2), some (.int x3)] [.int (0 : Int32), .int x2, .int x1, .ref 159] (mk c S41) from ?_)
                  refine J.goto (tgt := 66) d_X_sheet_62 rfl ?_
                  obtain ⟨r75, S76, h77, H⟩ := bd_e H
                  refine J.callV (y := m_H_lay) (av := [.int x1, .int x2, .int (0 : Int32)]) (rest := []) (q := 159) l_X_242 d_X_sheet_66 (isC_st rfl rfl) (c_H_lay w (d + 0) c  S41 x1 x2 (0 : Int32) h77) rfl (Nat.le_of_ble_eq_true rfl) ⟨Nat.le_refl _, Nat.le_refl _⟩ (show J w (d + 3) m_X_sheet (n0, z0, some (.int z.1), mk c z.2) 69 [some (.ref 33), some (.int x1), some (.int x2), some (.int x3)] [] (mk c S76) from ?_)
                  refine J.run b_X_sheet_69_1 k_X_sheet_69_1 rfl (show J w (d + 3) m_X_sheet (n0, z0, some (.int z.1), mk c z.2) 70 [some (.ref 33), some (.int x1), some (.int x2), some (.int x3)] [.int (1 : Int32)] (mk c S76) from ?_)
                  obtain rfl := some_e H
                  exact J.iret d_X_sheet_70 rfl rfl
              · have H := ite_f H q70
                refine J.run b_X_sheet_47_1 k_X_sheet_47_1 rfl (show J w (d + 3) m_X_sheet (n0, z0, some (.int z.1), mk c z.2) 49 [some (.ref 33), some (.int x1), some (.int x2), some (.int x3)] [.int (-14 : Int32)] (mk c S41) from ?_)
                obtain rfl := some_e H
                exact J.iret d_X_sheet_49 rfl rfl
          · have H := ite_f H q61
            refine J.run b_X_sheet_36_1 k_X_sheet_36_1 rfl (show J w (d + 3) m_X_sheet (n0, z0, some (.int z.1), mk c z.2) 37 [some (.ref 33), some (.int x1), some (.int x2), some (.int x3)] [.int (-1 : Int32)] (mk c S41) from ?_)
            obtain rfl := some_e H
            exact J.iret d_X_sheet_37 rfl rfl
      · have H := ite_t H q43
        refine J.run b_X_sheet_23_1 k_X_sheet_23_1 rfl (show J w (d + 3) m_X_sheet (n0, z0, some (.int z.1), mk c z.2) 24 [some (.ref 33), some (.int x1), some (.int x2), some (.int x3)] [.int (-1 : Int32)] (mk c S41) from ?_)
        obtain rfl := some_e H
        exact J.iret d_X_sheet_24 rfl rfl
def b_H_hasItem_0_1 : List Ins := [(.iload_n 2, 0, 0, 0)]
theorem k_H_hasItem_0_1 : bok m_H_hasItem 0 b_H_hasItem_0_1 = true := by decide +kernel
def b_H_hasItem_24_1 : List Ins := [(.iconst (0), 0, 0, 0)]
theorem k_H_hasItem_24_1 : bok m_H_hasItem 24 b_H_hasItem_24_1 = true := by decide +kernel
def b_H_hasItem_4_5 : List Ins := [(.iload_n 2, 0, 0, 0), (.aload_n 0, 0, 0, 0), (.getfield 15, 5, 1, 2), (.iload_n 1, 0, 0, 0), (.iaload, 0, 0, 0)]
theorem k_H_hasItem_4_5 : bok m_H_hasItem 4 b_H_hasItem_4_5 = true := by decide +kernel
def b_H_hasItem_14_2 : List Ins := [(.iload_n 2, 0, 0, 0), (.bipush (40), 0, 0, 0)]
theorem k_H_hasItem_14_2 : bok m_H_hasItem 14 b_H_hasItem_14_2 = true := by decide +kernel
def b_H_hasItem_20_1 : List Ins := [(.iconst (1), 0, 0, 0)]
theorem k_H_hasItem_20_1 : bok m_H_hasItem 20 b_H_hasItem_20_1 = true := by decide +kernel
theorem d_H_hasItem_1 : decode m_H_hasItem.2.1 1 = .ok (.ifCond .lt (23), 3) := by decide +kernel
theorem d_H_hasItem_25 : decode m_H_hasItem.2.1 25 = .ok (.ireturn, 1) := by decide +kernel
theorem d_H_hasItem_11 : decode m_H_hasItem.2.1 11 = .ok (.if_icmp .ge (13), 3) := by decide +kernel
theorem d_H_hasItem_17 : decode m_H_hasItem.2.1 17 = .ok (.if_icmp .ge (7), 3) := by decide +kernel
theorem d_H_hasItem_21 : decode m_H_hasItem.2.1 21 = .ok (.goto (4), 3) := by decide +kernel
def f_H_hasItem  (S : hs) (x1 : Int32) (x2 : Int32) : Option (Int32 × hs) := (if x2 < 0 then some ((0 : Int32), S) else ck (inb x1 4) ((if (gI S 161 (x1).toNatClampNeg) ≤ x2 then some ((0 : Int32), S) else (if (40 : Int32) ≤ x2 then some ((0 : Int32), S) else some ((1 : Int32), S)))))
theorem c_H_hasItem (w : Wd) (d : Nat) (c : cx)   (S : hs) (x1 : Int32) (x2 : Int32)  {z : Int32 × hs} (H : f_H_hasItem S x1 x2 = some z) : Cl w (d + 1) m_H_hasItem [.ref 159, .int x1, .int x2] (mk c S) (some (.int z.1)) (mk c z.2) := by
  refine Cl.of (Nat.le_refl _) (Nat.le_refl _) (by decide +kernel) (Nat.le_of_ble_eq_true rfl) ?_
  unfold f_H_hasItem at H
  generalize hN (mk c S) = n0
  generalize hZ (mk c S) = z0
  show J w (d + 1) m_H_hasItem (n0, z0, some (.int z.1), mk c z.2) 0 [some (.ref 159), some (.int x1), some (.int x2)] [] (mk c S)
  refine J.run b_H_hasItem_0_1 k_H_hasItem_0_1 rfl (show J w (d + 1) m_H_hasItem (n0, z0, some (.int z.1), mk c z.2) 1 [some (.ref 159), some (.int x1), some (.int x2)] [.int x2] (mk c S) from ?_)
  refine J.zlt (tgt := 24) d_H_hasItem_1 rfl (fun q1 => ?_) (fun q1 => ?_)
  · have H := ite_t H q1
    refine J.run b_H_hasItem_24_1 k_H_hasItem_24_1 rfl (show J w (d + 1) m_H_hasItem (n0, z0, some (.int z.1), mk c z.2) 25 [some (.ref 159), some (.int x1), some (.int x2)] [.int (0 : Int32)] (mk c S) from ?_)
    obtain rfl := some_e H
    exact J.nret d_H_hasItem_25 rfl rfl rfl
  · have H := ite_f H q1
    obtain ⟨g2, H⟩ := ck_e H
    refine J.run b_H_hasItem_4_5 k_H_hasItem_4_5 rfl (And.intro (okO_st (S := S) rfl) (And.intro (okA_st (S := S) (n := 4) rfl g2) (show J w (d + 1) m_H_hasItem (n0, z0, some (.int z.1), mk c z.2) 11 [some (.ref 159), some (.int x1), some (.int x2)] [.int (gI S 161 (x1).toNatClampNeg), .int x2] (mk c S) from ?_)))
    refine J.cge (tgt := 24) d_H_hasItem_11 rfl (fun q3 => ?_) (fun q3 => ?_)
    · have H := ite_t H q3
      refine J.run b_H_hasItem_24_1 k_H_hasItem_24_1 rfl (show J w (d + 1) m_H_hasItem (n0, z0, some (.int z.1), mk c z.2) 25 [some (.ref 159), some (.int x1), some (.int x2)] [.int (0 : Int32)] (mk c S) from ?_)
      obtain rfl := some_e H
      exact J.nret d_H_hasItem_25 rfl rfl rfl
    · have H := ite_f H q3
      refine J.run b_H_hasItem_14_2 k_H_hasItem_14_2 rfl (show J w (d + 1) m_H_hasItem (n0, z0, some (.int z.1), mk c z.2) 17 [some (.ref 159), some (.int x1), some (.int x2)] [.int (40 : Int32), .int x2] (mk c S) from ?_)
      refine J.cge (tgt := 24) d_H_hasItem_17 rfl (fun q4 => ?_) (fun q4 => ?_)
      · have H := ite_t H q4
        refine J.run b_H_hasItem_24_1 k_H_hasItem_24_1 rfl (show J w (d + 1) m_H_hasItem (n0, z0, some (.int z.1), mk c z.2) 25 [some (.ref 159), some (.int x1), some (.int x2)] [.int (0 : Int32)] (mk c S) from ?_)
        obtain rfl := some_e H
        exact J.nret d_H_hasItem_25 rfl rfl rfl
      · have H := ite_f H q4
        refine J.run b_H_hasItem_20_1 k_H_hasItem_20_1 rfl (show J w (d + 1) m_H_hasItem (n0, z0, some (.int z.1), mk c z.2) 21 [some (.ref 159), some (.int x1), some (.int x2)] [.int (1 : Int32)] (mk c S) from ?_)
        refine J.goto (tgt := 25) d_H_hasItem_21 rfl ?_
        obtain rfl := some_e H
        exact J.nret d_H_hasItem_25 rfl rfl rfl
def b_X_narrowed_0_1 : List Ins := [(.iload_n 0, 0, 0, 0)]
theorem k_X_narrowed_0_1 : bok m_X_narrowed 0 b_X_narrowed_0_1 = true := by decide +kernel
def b_X_narrowed_36_3 : List Ins := [(.iload_n 1, 0, 0, 0), (.i2b, 0, 0, 0), (.i2l, 0, 0, 0)]
theorem k_X_narrowed_36_3 : bok m_X_narrowed 36 b_X_narrowed_36_3 = true := by decide +kernel
def b_X_narrowed_40_3 : List Ins := [(.iload_n 1, 0, 0, 0), (.i2s, 0, 0, 0), (.i2l, 0, 0, 0)]
theorem k_X_narrowed_40_3 : bok m_X_narrowed 40 b_X_narrowed_40_3 = true := by decide +kernel
def b_X_narrowed_54_2 : List Ins := [(.iload_n 1, 0, 0, 0), (.i2l, 0, 0, 0)]
theorem k_X_narrowed_54_2 : bok m_X_narrowed 54 b_X_narrowed_54_2 = true := by decide +kernel
def b_X_narrowed_44_1 : List Ins := [(.iload_n 1, 0, 0, 0)]
theorem k_X_narrowed_44_1 : bok m_X_narrowed 44 b_X_narrowed_44_1 = true := by decide +kernel
def b_X_narrowed_52_1 : List Ins := [(.lconst 0, 0, 0, 0)]
theorem k_X_narrowed_52_1 : bok m_X_narrowed 52 b_X_narrowed_52_1 = true := by decide +kernel
def b_X_narrowed_48_1 : List Ins := [(.lconst 1, 0, 0, 0)]
theorem k_X_narrowed_48_1 : bok m_X_narrowed 48 b_X_narrowed_48_1 = true := by decide +kernel
theorem d_X_narrowed_1 : decode m_X_narrowed.2.1 1 = .ok (.tableswitch (53) (0) (4) #[35, 39, 53, 53, 43], 35) := by decide +kernel
theorem d_X_narrowed_39 : decode m_X_narrowed.2.1 39 = .ok (.lreturn, 1) := by decide +kernel
theorem d_X_narrowed_43 : decode m_X_narrowed.2.1 43 = .ok (.lreturn, 1) := by decide +kernel
theorem d_X_narrowed_56 : decode m_X_narrowed.2.1 56 = .ok (.lreturn, 1) := by decide +kernel
theorem d_X_narrowed_45 : decode m_X_narrowed.2.1 45 = .ok (.ifCond .eq (7), 3) := by decide +kernel
theorem d_X_narrowed_53 : decode m_X_narrowed.2.1 53 = .ok (.lreturn, 1) := by decide +kernel
theorem d_X_narrowed_49 : decode m_X_narrowed.2.1 49 = .ok (.goto (4), 3) := by decide +kernel
def f_X_narrowed  (S : hs) (x0 : Int32) (x1 : Int32) : Option (Int64 × hs) := (if x0 = (0 : Int32) then some (((x1.toInt8.toInt32).toInt64), S) else (if x0 = (1 : Int32) then some (((x1.toInt16.toInt32).toInt64), S) else (if x0 = (2 : Int32) then some ((x1.toInt64), S) else (if x0 = (3 : Int32) then some ((x1.toInt64), S) else (if x0 = (4 : Int32) then (if x1 = 0 then some ((0 : Int64), S) else some ((1 : Int64), S)) else some ((x1.toInt64), S))))))
theorem c_X_narrowed (w : Wd) (d : Nat) (c : cx)   (S : hs) (x0 : Int32) (x1 : Int32)  {z : Int64 × hs} (H : f_X_narrowed S x0 x1 = some z) : Cl w (d + 1) m_X_narrowed [.int x0, .int x1] (mk c S) (some (.long z.1)) (mk c z.2) := by
  refine Cl.of (Nat.le_refl _) (Nat.le_refl _) (by decide +kernel) (Nat.le_of_ble_eq_true rfl) ?_
  unfold f_X_narrowed at H
  generalize hN (mk c S) = n0
  generalize hZ (mk c S) = z0
  show J w (d + 1) m_X_narrowed (n0, z0, some (.long z.1), mk c z.2) 0 [some (.int x0), some (.int x1)] [] (mk c S)
  refine J.run b_X_narrowed_0_1 k_X_narrowed_0_1 rfl (show J w (d + 1) m_X_narrowed (n0, z0, some (.long z.1), mk c z.2) 1 [some (.int x0), some (.int x1)] [.int x0] (mk c S) from ?_)
  by_cases q1 : x0 = (0 : Int32)
  · have H := ite_t H q1
    refine J.tsIn (off := 35) (tgt := 36) d_X_narrowed_1 (by rw [q1]; decide) (by rw [q1]; decide) (by rw [q1]; rfl) rfl ?_
    refine J.run b_X_narrowed_36_3 k_X_narrowed_36_3 rfl (show J w (d + 1) m_X_narrowed (n0, z0, some (.long z.1), mk c z.2) 39 [some (.int x0), some (.int x1)] [.long ((x1.toInt8.toInt32).toInt64)] (mk c S) from ?_)
    obtain rfl := some_e H
    exact J.lret d_X_narrowed_39 rfl rfl
  · have H := ite_f H q1
    by_cases q2 : x0 = (1 : Int32)
    · have H := ite_t H q2
      refine J.tsIn (off := 39) (tgt := 40) d_X_narrowed_1 (by rw [q2]; decide) (by rw [q2]; decide) (by rw [q2]; rfl) rfl ?_
      refine J.run b_X_narrowed_40_3 k_X_narrowed_40_3 rfl (show J w (d + 1) m_X_narrowed (n0, z0, some (.long z.1), mk c z.2) 43 [some (.int x0), some (.int x1)] [.long ((x1.toInt16.toInt32).toInt64)] (mk c S) from ?_)
      obtain rfl := some_e H
      exact J.lret d_X_narrowed_43 rfl rfl
    · have H := ite_f H q2
      by_cases q3 : x0 = (2 : Int32)
      · have H := ite_t H q3
        refine J.tsIn (off := 53) (tgt := 54) d_X_narrowed_1 (by rw [q3]; decide) (by rw [q3]; decide) (by rw [q3]; rfl) rfl ?_
        refine J.run b_X_narrowed_54_2 k_X_narrowed_54_2 rfl (show J w (d + 1) m_X_narrowed (n0, z0, some (.long z.1), mk c z.2) 56 [some (.int x0), some (.int x1)] [.long (x1.toInt64)] (mk c S) from ?_)
        obtain rfl := some_e H
        exact J.lret d_X_narrowed_56 rfl rfl
      · have H := ite_f H q3
        by_cases q4 : x0 = (3 : Int32)
        · have H := ite_t H q4
          refine J.tsIn (off := 53) (tgt := 54) d_X_narrowed_1 (by rw [q4]; decide) (by rw [q4]; decide) (by rw [q4]; rfl) rfl ?_
          refine J.run b_X_narrowed_54_2 k_X_narrowed_54_2 rfl (show J w (d + 1) m_X_narrowed (n0, z0, some (.long z.1), mk c z.2) 56 [some (.int x0), some (.int x1)] [.long (x1.toInt64)] (mk c S) from ?_)
          obtain rfl := some_e H
          exact J.lret d_X_narrowed_56 rfl rfl
        · have H := ite_f H q4
          by_cases q5 : x0 = (4 : Int32)
          · have H := ite_t H q5
            refine J.tsIn (off := 43) (tgt := 44) d_X_narrowed_1 (by rw [q5]; decide) (by rw [q5]; decide) (by rw [q5]; rfl) rfl ?_
            refine J.run b_X_narrowed_44_1 k_X_narrowed_44_1 rfl (show J w (d + 1) m_X_narrowed (n0, z0, some (.long z.1), mk c z.2) 45 [some (.int x0), some (.int x1)] [.int x1] (mk c S) from ?_)
            refine J.zeq (tgt := 52) d_X_narrowed_45 rfl (fun q6 => ?_) (fun q6 => ?_)
            · have H := ite_t H q6
              refine J.run b_X_narrowed_52_1 k_X_narrowed_52_1 rfl (show J w (d + 1) m_X_narrowed (n0, z0, some (.long z.1), mk c z.2) 53 [some (.int x0), some (.int x1)] [.long (0 : Int64)] (mk c S) from ?_)
              obtain rfl := some_e H
              exact J.lret d_X_narrowed_53 rfl rfl
            · have H := ite_f H q6
              refine J.run b_X_narrowed_48_1 k_X_narrowed_48_1 rfl (show J w (d + 1) m_X_narrowed (n0, z0, some (.long z.1), mk c z.2) 49 [some (.int x0), some (.int x1)] [.long (1 : Int64)] (mk c S) from ?_)
              refine J.goto (tgt := 53) d_X_narrowed_49 rfl ?_
              obtain rfl := some_e H
              exact J.lret d_X_narrowed_53 rfl rfl
          · have H := ite_f H q5
            refine J.tsOut (tgt := 54) d_X_narrowed_1 (tsO fun k h1 h2 => ?_) rfl ?_
            · rcases (show k = 0 ∨ k = 1 ∨ k = 2 ∨ k = 3 ∨ k = 4 by omega) with rfl | rfl | rfl | rfl | rfl
              · exact lv_neT q1 rfl
              · exact lv_neT q2 rfl
              · exact lv_neT q3 rfl
              · exact lv_neT q4 rfl
              · exact lv_neT q5 rfl
            · refine J.run b_X_narrowed_54_2 k_X_narrowed_54_2 rfl (show J w (d + 1) m_X_narrowed (n0, z0, some (.long z.1), mk c z.2) 56 [some (.int x0), some (.int x1)] [.long (x1.toInt64)] (mk c S) from ?_)
              obtain rfl := some_e H
              exact J.lret d_X_narrowed_56 rfl rfl
def b_X_write_0_3 : List Ins := [(.aload_n 0, 0, 0, 0), (.getfield 36, 0, 4, 2), (.iload_n 1, 0, 0, 0)]
theorem k_X_write_0_3 : bok m_X_write 0 b_X_write_0_3 = true := by decide +kernel
def b_X_write_13_6 : List Ins := [(.aload_n 0, 0, 0, 0), (.getfield 36, 0, 4, 2), (.getfield 246, 5, 0, 2), (.iload_n 1, 0, 0, 0), (.iaload, 0, 0, 0), (.iconst (-1), 0, 0, 0)]
theorem k_X_write_13_6 : bok m_X_write 13 b_X_write_13_6 = true := by decide +kernel
def b_X_write_29_4 : List Ins := [(.aload_n 0, 0, 0, 0), (.getfield 36, 0, 4, 2), (.iload_n 1, 0, 0, 0), (.iload_n 2, 0, 0, 0)]
theorem k_X_write_29_4 : bok m_X_write 29 b_X_write_29_4 = true := by decide +kernel
def b_X_write_44_12 : List Ins := [(.aload_n 0, 0, 0, 0), (.getfield 36, 0, 4, 2), (.getfield 252, 5, 2, 2), (.iload_n 1, 0, 0, 0), (.aaload, 0, 0, 0), (.iload_n 2, 0, 0, 0), (.aload_n 0, 0, 0, 0), (.getfield 36, 0, 4, 2), (.getfield 246, 5, 0, 2), (.iload_n 1, 0, 0, 0), (.iaload, 0, 0, 0), (.iload_n 3, 0, 0, 0)]
theorem k_X_write_44_12 : bok m_X_write 44 b_X_write_44_12 = true := by decide +kernel
def b_X_write_67_2 : List Ins := [(.lastore, 0, 0, 0), (.iconst (1), 0, 0, 0)]
theorem k_X_write_67_2 : bok m_X_write 67 b_X_write_67_2 = true := by decide +kernel
def b_X_write_41_1 : List Ins := [(.bipush (-12), 0, 0, 0)]
theorem k_X_write_41_1 : bok m_X_write 41 b_X_write_41_1 = true := by decide +kernel
def b_X_write_26_1 : List Ins := [(.bipush (-11), 0, 0, 0)]
theorem k_X_write_26_1 : bok m_X_write 26 b_X_write_26_1 = true := by decide +kernel
def b_X_write_11_1 : List Ins := [(.iconst (-1), 0, 0, 0)]
theorem k_X_write_11_1 : bok m_X_write 11 b_X_write_11_1 = true := by decide +kernel
theorem d_X_write_5 : decode m_X_write.2.1 5 = .ok (.invokevirtual 236, 3) := by decide +kernel
theorem d_X_write_8 : decode m_X_write.2.1 8 = .ok (.ifCond .ne (5), 3) := by decide +kernel
theorem d_X_write_23 : decode m_X_write.2.1 23 = .ok (.if_icmp .ne (6), 3) := by decide +kernel
theorem d_X_write_35 : decode m_X_write.2.1 35 = .ok (.invokevirtual 249, 3) := by decide +kernel
theorem d_X_write_38 : decode m_X_write.2.1 38 = .ok (.ifCond .ne (6), 3) := by decide +kernel
theorem d_X_write_64 : decode m_X_write.2.1 64 = .ok (.invokestatic 256, 3) := by decide +kernel
theorem d_X_write_69 : decode m_X_write.2.1 69 = .ok (.ireturn, 1) := by decide +kernel
theorem d_X_write_43 : decode m_X_write.2.1 43 = .ok (.ireturn, 1) := by decide +kernel
theorem d_X_write_28 : decode m_X_write.2.1 28 = .ok (.ireturn, 1) := by decide +kernel
theorem d_X_write_12 : decode m_X_write.2.1 12 = .ok (.ireturn, 1) := by decide +kernel
def f_X_write  (S : hs) (x1 : Int32) (x2 : Int32) (x3 : Int32) : Option (Int32 × hs) := bd (f_H_hasSheet  S x1) fun r1 S2 => (if r1 = 0 then some ((-1 : Int32), S2) else ck (inb x1 4) ((if (gI S2 160 (x1).toNatClampNeg) = (-1 : Int32) then some ((-11 : Int32), S2) else bd (f_H_hasItem  S2 x1 x2) fun r7 S8 => (if r7 = 0 then some ((-12 : Int32), S8) else bd (f_X_narrowed  S8 (gI S8 160 (x1).toNatClampNeg) x3) fun r11 S12 => ck (inb x2 40) (some ((1 : Int32), (uJ S12 (163 + (x1).toNatClampNeg) (x2).toNatClampNeg r11)))))))
theorem c_X_write (w : Wd) (d : Nat) (c : cx)   (S : hs) (x1 : Int32) (x2 : Int32) (x3 : Int32)  {z : Int32 × hs} (H : f_X_write S x1 x2 x3 = some z) : Cl w (d + 2) m_X_write [.ref 33, .int x1, .int x2, .int x3] (mk c S) (some (.int z.1)) (mk c z.2) := by
  refine Cl.of (Nat.le_refl _) (Nat.le_refl _) (by decide +kernel) (Nat.le_of_ble_eq_true rfl) ?_
  unfold f_X_write at H
  generalize hN (mk c S) = n0
  generalize hZ (mk c S) = z0
  show J w (d + 2) m_X_write (n0, z0, some (.int z.1), mk c z.2) 0 [some (.ref 33), some (.int x1), some (.int x2), some (.int x3)] [] (mk c S)
  refine J.run b_X_write_0_3 k_X_write_0_3 rfl (And.intro (okO_st (S := S) rfl) (show J w (d + 2) m_X_write (n0, z0, some (.int z.1), mk c z.2) 5 [some (.ref 33), some (.int x1), some (.int x2), some (.int x3)] [.int x1, .ref 159] (mk c S) from ?_))
  obtain ⟨r1, S2, h3, H⟩ := bd_e H
  refine J.callV (y := m_H_hasSheet) (av := [.int x1]) (rest := []) (q := 159) l_X_236 d_X_write_5 (isC_st rfl rfl) (c_H_hasSheet w (d + 0) c  S x1 h3) rfl (Nat.le_of_ble_eq_true rfl) ⟨Nat.le_refl _, Nat.le_refl _⟩ (show J w (d + 2) m_X_write (n0, z0, some (.int z.1), mk c z.2) 8 [some (.ref 33), some (.int x1), some (.int x2), some (.int x3)] [.int r1] (mk c S2) from ?_)
  refine J.zne (tgt := 13) d_X_write_8 rfl (fun q4 => ?_) (fun q4 => ?_)
  · have H := ite_f H q4
    obtain ⟨g5, H⟩ := ck_e H
    refine J.run b_X_write_13_6 k_X_write_13_6 rfl (And.intro (okO_st (S := S2) rfl) (And.intro (okO_st (S := S2) rfl) (And.intro (okA_st (S := S2) (n := 4) rfl g5) (show J w (d + 2) m_X_write (n0, z0, some (.int z.1), mk c z.2) 23 [some (.ref 33), some (.int x1), some (.int x2), some (.int x3)] [.int (-1 : Int32), .int (gI S2 160 (x1).toNatClampNeg)] (mk c S2) from ?_))))
    refine J.cne (tgt := 29) d_X_write_23 rfl (fun q6 => ?_) (fun q6 => ?_)
    · have H := ite_f H q6
      refine J.run b_X_write_29_4 k_X_write_29_4 rfl (And.intro (okO_st (S := S2) rfl) (show J w (d + 2) m_X_write (n0, z0, some (.int z.1), mk c z.2) 35 [some (.ref 33), some (.int x1), some (.int x2), some (.int x3)] [.int x2, .int x1, .ref 159] (mk c S2) from ?_))
      obtain ⟨r7, S8, h9, H⟩ := bd_e H
      refine J.callV (y := m_H_hasItem) (av := [.int x1, .int x2]) (rest := []) (q := 159) l_X_249 d_X_write_35 (isC_st rfl rfl) (c_H_hasItem w (d + 0) c  S2 x1 x2 h9) rfl (Nat.le_of_ble_eq_true rfl) ⟨Nat.le_refl _, Nat.le_refl _⟩ (show J w (d + 2) m_X_write (n0, z0, some (.int z.1), mk c z.2) 38 [some (.ref 33), some (.int x1), some (.int x2), some (.int x3)] [.int r7] (mk c S8) from ?_)
      refine J.zne (tgt := 44) d_X_write_38 rfl (fun q10 => ?_) (fun q10 => ?_)
      · have H := ite_f H q10
        refine J.run b_X_write_44_12 k_X_write_44_12 rfl (And.intro (okO_st (S := S8) rfl) (And.intro (okO_st (S := S8) rfl) (And.intro (okQ_st (S := S8) (k := 24) (n := 4) rfl rfl g5) (And.intro (okO_st (S := S8) rfl) (And.intro (okO_st (S := S8) rfl) (And.intro (okA_st (S := S8) (n := 4) rfl g5) (show J w (d + 2) m_X_write (n0, z0, some (.int z.1), mk c z.2) 64 [some (.ref 33), some (.int x1), some (.int x2), some (.int x3)] [.int x3, .int (gI S8 160 (x1).toNatClampNeg), .int x2, .ref (163 + (x1).toNatClampNeg)] (mk c S8) from ?_)))))))
        obtain ⟨r11, S12, h13, H⟩ := bd_e H
        refine J.callS (y := m_X_narrowed) (av := [.int (gI S8 160 (x1).toNatClampNeg), .int x3]) (rest := [.int x2, .ref (163 + (x1).toNatClampNeg)]) l_X_256 d_X_write_64 (c_X_narrowed w (d + 0) c  S8 (gI S8 160 (x1).toNatClampNeg) x3 h13) rfl (Nat.le_of_ble_eq_true rfl) ⟨Nat.le_refl _, Nat.le_refl _⟩ (show J w (d + 2) m_X_write (n0, z0, some (.int z.1), mk c z.2) 67 [some (.ref 33), some (.int x1), some (.int x2), some (.int x3)] [.long r11, .int x2, .ref (163 + (x1).toNatClampNeg)] (mk c S12) from ?_)
        obtain ⟨g14, H⟩ := ck_e H
        refine J.run b_X_write_67_2 k_X_write_67_2 rfl (And.intro (okB_row (S := S12) (b := 163) (cnt := 4) (n := 40) rfl (inb_lt g5) g14) (show J w (d + 2) m_X_write (n0, z0, some (.int z.1), mk c z.2) 69 [some (.ref 33), some (.int x1), some (.int x2), some (.int x3)] [.int (1 : Int32)] (mk c (uJ S12 (163 + (x1).toNatClampNeg) (x2).toNatClampNeg r11)) from ?_))
        obtain rfl := some_e H
        exact J.iret d_X_write_69 rfl rfl
      · have H := ite_t H q10
        refine J.run b_X_write_41_1 k_X_write_41_1 rfl (show J w (d + 2) m_X_write (n0, z0, some (.int z.1), mk c z.2) 43 [some (.ref 33), some (.int x1), some (.int x2), some (.int x3)] [.int (-12 : Int32)] (mk c S8) from ?_)
        obtain rfl := some_e H
        exact J.iret d_X_write_43 rfl rfl
    · have H := ite_t H q6
      refine J.run b_X_write_26_1 k_X_write_26_1 rfl (show J w (d + 2) m_X_write (n0, z0, some (.int z.1), mk c z.2) 28 [some (.ref 33), some (.int x1), some (.int x2), some (.int x3)] [.int (-11 : Int32)] (mk c S2) from ?_)
      obtain rfl := some_e H
      exact J.iret d_X_write_28 rfl rfl
  · have H := ite_t H q4
    refine J.run b_X_write_11_1 k_X_write_11_1 rfl (show J w (d + 2) m_X_write (n0, z0, some (.int z.1), mk c z.2) 12 [some (.ref 33), some (.int x1), some (.int x2), some (.int x3)] [.int (-1 : Int32)] (mk c S2) from ?_)
    obtain rfl := some_e H
    exact J.iret d_X_write_12 rfl rfl
def b_H_refuseAs_0_5 : List Ins := [(.aload_n 0, 0, 0, 0), (.getfield 9, 5, 0, 2), (.iload_n 1, 0, 0, 0), (.iaload, 0, 0, 0), (.iconst (-1), 0, 0, 0)]
theorem k_H_refuseAs_0_5 : bok m_H_refuseAs 0 b_H_refuseAs_0_5 = true := by decide +kernel
def b_H_refuseAs_13_5 : List Ins := [(.aload_n 0, 0, 0, 0), (.getfield 9, 5, 0, 2), (.iload_n 1, 0, 0, 0), (.iaload, 0, 0, 0), (.iload_n 2, 0, 0, 0)]
theorem k_H_refuseAs_13_5 : bok m_H_refuseAs 13 b_H_refuseAs_13_5 = true := by decide +kernel
def b_H_refuseAs_27_1 : List Ins := [(.bipush (-13), 0, 0, 0)]
theorem k_H_refuseAs_27_1 : bok m_H_refuseAs 27 b_H_refuseAs_27_1 = true := by decide +kernel
def b_H_refuseAs_23_1 : List Ins := [(.iconst (0), 0, 0, 0)]
theorem k_H_refuseAs_23_1 : bok m_H_refuseAs 23 b_H_refuseAs_23_1 = true := by decide +kernel
def b_H_refuseAs_10_1 : List Ins := [(.bipush (-11), 0, 0, 0)]
theorem k_H_refuseAs_10_1 : bok m_H_refuseAs 10 b_H_refuseAs_10_1 = true := by decide +kernel
theorem d_H_refuseAs_7 : decode m_H_refuseAs.2.1 7 = .ok (.if_icmp .ne (6), 3) := by decide +kernel
theorem d_H_refuseAs_20 : decode m_H_refuseAs.2.1 20 = .ok (.if_icmp .ne (7), 3) := by decide +kernel
theorem d_H_refuseAs_29 : decode m_H_refuseAs.2.1 29 = .ok (.ireturn, 1) := by decide +kernel
theorem d_H_refuseAs_24 : decode m_H_refuseAs.2.1 24 = .ok (.goto (5), 3) := by decide +kernel
theorem d_H_refuseAs_12 : decode m_H_refuseAs.2.1 12 = .ok (.ireturn, 1) := by decide +kernel
def f_H_refuseAs  (S : hs) (x1 : Int32) (x2 : Int32) : Option (Int32 × hs) := ck (inb x1 4) ((if (gI S 160 (x1).toNatClampNeg) = (-1 : Int32) then some ((-11 : Int32), S) else (if (gI S 160 (x1).toNatClampNeg) = x2 then some ((0 : Int32), S) else some ((-13 : Int32), S))))
theorem c_H_refuseAs (w : Wd) (d : Nat) (c : cx)   (S : hs) (x1 : Int32) (x2 : Int32)  {z : Int32 × hs} (H : f_H_refuseAs S x1 x2 = some z) : Cl w (d + 1) m_H_refuseAs [.ref 159, .int x1, .int x2] (mk c S) (some (.int z.1)) (mk c z.2) := by
  refine Cl.of (Nat.le_refl _) (Nat.le_refl _) (by decide +kernel) (Nat.le_of_ble_eq_true rfl) ?_
  unfold f_H_refuseAs at H
  generalize hN (mk c S) = n0
  generalize hZ (mk c S) = z0
  show J w (d + 1) m_H_refuseAs (n0, z0, some (.int z.1), mk c z.2) 0 [some (.ref 159), some (.int x1), some (.int x2)] [] (mk c S)
  obtain ⟨g1, H⟩ := ck_e H
  refine J.run b_H_refuseAs_0_5 k_H_refuseAs_0_5 rfl (And.intro (okO_st (S := S) rfl) (And.intro (okA_st (S := S) (n := 4) rfl g1) (show J w (d + 1) m_H_refuseAs (n0, z0, some (.int z.1), mk c z.2) 7 [some (.ref 159), some (.int x1), some (.int x2)] [.int (-1 : Int32), .int (gI S 160 (x1).toNatClampNeg)] (mk c S) from ?_)))
  refine J.cne (tgt := 13) d_H_refuseAs_7 rfl (fun q2 => ?_) (fun q2 => ?_)
  · have H := ite_f H q2
    refine J.run b_H_refuseAs_13_5 k_H_refuseAs_13_5 rfl (And.intro (okO_st (S := S) rfl) (And.intro (okA_st (S := S) (n := 4) rfl g1) (show J w (d + 1) m_H_refuseAs (n0, z0, some (.int z.1), mk c z.2) 20 [some (.ref 159), some (.int x1), some (.int x2)] [.int x2, .int (gI S 160 (x1).toNatClampNeg)] (mk c S) from ?_)))
    refine J.cne (tgt := 27) d_H_refuseAs_20 rfl (fun q3 => ?_) (fun q3 => ?_)
    · have H := ite_f H q3
      refine J.run b_H_refuseAs_27_1 k_H_refuseAs_27_1 rfl (show J w (d + 1) m_H_refuseAs (n0, z0, some (.int z.1), mk c z.2) 29 [some (.ref 159), some (.int x1), some (.int x2)] [.int (-13 : Int32)] (mk c S) from ?_)
      obtain rfl := some_e H
      exact J.iret d_H_refuseAs_29 rfl rfl
    · have H := ite_t H q3
      refine J.run b_H_refuseAs_23_1 k_H_refuseAs_23_1 rfl (show J w (d + 1) m_H_refuseAs (n0, z0, some (.int z.1), mk c z.2) 24 [some (.ref 159), some (.int x1), some (.int x2)] [.int (0 : Int32)] (mk c S) from ?_)
      refine J.goto (tgt := 29) d_H_refuseAs_24 rfl ?_
      obtain rfl := some_e H
      exact J.iret d_H_refuseAs_29 rfl rfl
  · have H := ite_t H q2
    refine J.run b_H_refuseAs_10_1 k_H_refuseAs_10_1 rfl (show J w (d + 1) m_H_refuseAs (n0, z0, some (.int z.1), mk c z.2) 12 [some (.ref 159), some (.int x1), some (.int x2)] [.int (-11 : Int32)] (mk c S) from ?_)
    obtain rfl := some_e H
    exact J.iret d_H_refuseAs_12 rfl rfl
def b_X_item_0_3 : List Ins := [(.aload_n 0, 0, 0, 0), (.getfield 36, 0, 4, 2), (.iload_n 1, 0, 0, 0)]
theorem k_X_item_0_3 : bok m_X_item 0 b_X_item_0_3 = true := by decide +kernel
def b_X_item_18_1 : List Ins := [(.iconst (-1), 0, 0, 0)]
theorem k_X_item_18_1 : bok m_X_item 18 b_X_item_18_1 = true := by decide +kernel
def b_X_item_11_1 : List Ins := [(.iload_n 2, 0, 0, 0)]
theorem k_X_item_11_1 : bok m_X_item 11 b_X_item_11_1 = true := by decide +kernel
def b_X_item_20_4 : List Ins := [(.aload_n 0, 0, 0, 0), (.getfield 36, 0, 4, 2), (.iload_n 1, 0, 0, 0), (.iload_n 2, 0, 0, 0)]
theorem k_X_item_20_4 : bok m_X_item 20 b_X_item_20_4 = true := by decide +kernel
def b_X_item_29_2 : List Ins := [(.istore 4, 0, 0, 0), (.iload 4, 0, 0, 0)]
theorem k_X_item_29_2 : bok m_X_item 29 b_X_item_29_2 = true := by decide +kernel
def b_X_item_39_4 : List Ins := [(.aload_n 0, 0, 0, 0), (.getfield 36, 0, 4, 2), (.iload_n 1, 0, 0, 0), (.iload_n 3, 0, 0, 0)]
theorem k_X_item_39_4 : bok m_X_item 39 b_X_item_39_4 = true := by decide +kernel
def b_X_item_66_1 : List Ins := [(.bipush (-12), 0, 0, 0)]
theorem k_X_item_66_1 : bok m_X_item 66 b_X_item_66_1 = true := by decide +kernel
def b_X_item_51_8 : List Ins := [(.aload_n 0, 0, 0, 0), (.getfield 36, 0, 4, 2), (.getfield 252, 5, 2, 2), (.iload_n 1, 0, 0, 0), (.aaload, 0, 0, 0), (.iload_n 3, 0, 0, 0), (.laload, 0, 0, 0), (.l2i, 0, 0, 0)]
theorem k_X_item_51_8 : bok m_X_item 51 b_X_item_51_8 = true := by decide +kernel
def b_X_item_36_1 : List Ins := [(.iload 4, 0, 0, 0)]
theorem k_X_item_36_1 : bok m_X_item 36 b_X_item_36_1 = true := by decide +kernel
theorem d_X_item_5 : decode m_X_item.2.1 5 = .ok (.invokevirtual 236, 3) := by decide +kernel
theorem d_X_item_8 : decode m_X_item.2.1 8 = .ok (.ifCond .eq (10), 3) := by decide +kernel
theorem d_X_item_19 : decode m_X_item.2.1 19 = .ok (.ireturn, 1) := by decide +kernel
theorem d_X_item_12 : decode m_X_item.2.1 12 = .ok (.invokestatic 239, 3) := by decide +kernel
theorem d_X_item_15 : decode m_X_item.2.1 15 = .ok (.ifCond .ne (5), 3) := by decide +kernel
theorem d_X_item_26 : decode m_X_item.2.1 26 = .ok (.invokevirtual 260, 3) := by decide +kernel
theorem d_X_item_33 : decode m_X_item.2.1 33 = .ok (.ifCond .eq (6), 3) := by decide +kernel
theorem d_X_item_45 : decode m_X_item.2.1 45 = .ok (.invokevirtual 249, 3) := by decide +kernel
theorem d_X_item_48 : decode m_X_item.2.1 48 = .ok (.ifCond .eq (18), 3) := by decide +kernel
theorem d_X_item_68 : decode m_X_item.2.1 68 = .ok (.ireturn, 1) := by decide +kernel
theorem d_X_item_63 : decode m_X_item.2.1 63 = .ok (.goto (5), 3) := by decide +kernel
theorem d_X_item_38 : decode m_X_item.2.1 38 = .ok (.ireturn, 1) := by decide +kernel
def f_X_item  (S : hs) (x1 : Int32) (x2 : Int32) (x3 : Int32) : Option (Int32 × hs) := bd (f_H_hasSheet  S x1) fun r1 S2 => (if r1 = 0 then some ((-1 : Int32), S2) else bd (f_X_isSort  S2 x2) fun r5 S6 => (if r5 = 0 then some ((-1 : Int32), S6) else bd (f_H_refuseAs  S6 x1 x2) fun r9 S10 => (if r9 = 0 then bd (f_H_hasItem  S10 x1 x3) fun r13 S14 => (if r13 = 0 then some ((-12 : Int32), S14) else ck (inb x1 4) (ck (inb x3 40) (some (((gJ S14 (163 + (x1).toNatClampNeg) (x3).toNatClampNeg).toInt32), S14)))) else some (r9, S10))))
theorem c_X_item (w : Wd) (d : Nat) (c : cx)   (S : hs) (x1 : Int32) (x2 : Int32) (x3 : Int32)  {z : Int32 × hs} (H : f_X_item S x1 x2 x3 = some z) : Cl w (d + 2) m_X_item [.ref 33, .int x1, .int x2, .int x3] (mk c S) (some (.int z.1)) (mk c z.2) := by
  refine Cl.of (Nat.le_refl _) (Nat.le_refl _) (by decide +kernel) (Nat.le_of_ble_eq_true rfl) ?_
  unfold f_X_item at H
  generalize hN (mk c S) = n0
  generalize hZ (mk c S) = z0
  show J w (d + 2) m_X_item (n0, z0, some (.int z.1), mk c z.2) 0 [some (.ref 33), some (.int x1), some (.int x2), some (.int x3), none] [] (mk c S)
  refine J.run b_X_item_0_3 k_X_item_0_3 rfl (And.intro (okO_st (S := S) rfl) (show J w (d + 2) m_X_item (n0, z0, some (.int z.1), mk c z.2) 5 [some (.ref 33), some (.int x1), some (.int x2), some (.int x3), none] [.int x1, .ref 159] (mk c S) from ?_))
  obtain ⟨r1, S2, h3, H⟩ := bd_e H
  refine J.callV (y := m_H_hasSheet) (av := [.int x1]) (rest := []) (q := 159) l_X_236 d_X_item_5 (isC_st rfl rfl) (c_H_hasSheet w (d + 0) c  S x1 h3) rfl (Nat.le_of_ble_eq_true rfl) ⟨Nat.le_refl _, Nat.le_refl _⟩ (show J w (d + 2) m_X_item (n0, z0, some (.int z.1), mk c z.2) 8 [some (.ref 33), some (.int x1), some (.int x2), some (.int x3), none] [.int r1] (mk c S2) from ?_)
  refine J.zeq (tgt := 18) d_X_item_8 rfl (fun q4 => ?_) (fun q4 => ?_)
  · have H := ite_t H q4
    refine J.run b_X_item_18_1 k_X_item_18_1 rfl (show J w (d + 2) m_X_item (n0, z0, some (.int z.1), mk c z.2) 19 [some (.ref 33), some (.int x1), some (.int x2), some (.int x3), none] [.int (-1 : Int32)] (mk c S2) from ?_)
    obtain rfl := some_e H
    exact J.iret d_X_item_19 rfl rfl
  · have H := ite_f H q4
    refine J.run b_X_item_11_1 k_X_item_11_1 rfl (show J w (d + 2) m_X_item (n0, z0, some (.int z.1), mk c z.2) 12 [some (.ref 33), some (.int x1), some (.int x2), some (.int x3), none] [.int x2] (mk c S2) from ?_)
    obtain ⟨r5, S6, h7, H⟩ := bd_e H
    refine J.callS (y := m_X_isSort) (av := [.int x2]) (rest := []) l_X_239 d_X_item_12 (c_X_isSort w (d + 0) c  S2 x2 h7) rfl (Nat.le_of_ble_eq_true rfl) ⟨Nat.le_refl _, Nat.le_refl _⟩ (show J w (d + 2) m_X_item (n0, z0, some (.int z.1), mk c z.2) 15 [some (.ref 33), some (.int x1), some (.int x2), some (.int x3), none] [.int r5] (mk c S6) from ?_)
    refine J.zne (tgt := 20) d_X_item_15 rfl (fun q8 => ?_) (fun q8 => ?_)
    · have H := ite_f H q8
      refine J.run b_X_item_20_4 k_X_item_20_4 rfl (And.intro (okO_st (S := S6) rfl) (show J w (d + 2) m_X_item (n0, z0, some (.int z.1), mk c z.2) 26 [some (.ref 33), some (.int x1), some (.int x2), some (.int x3), none] [.int x2, .int x1, .ref 159] (mk c S6) from ?_))
      obtain ⟨r9, S10, h11, H⟩ := bd_e H
      refine J.callV (y := m_H_refuseAs) (av := [.int x1, .int x2]) (rest := []) (q := 159) l_X_260 d_X_item_26 (isC_st rfl rfl) (c_H_refuseAs w (d + 0) c  S6 x1 x2 h11) rfl (Nat.le_of_ble_eq_true rfl) ⟨Nat.le_refl _, Nat.le_refl _⟩ (show J w (d + 2) m_X_item (n0, z0, some (.int z.1), mk c z.2) 29 [some (.ref 33), some (.int x1), some (.int x2), some (.int x3), none] [.int r9] (mk c S10) from ?_)
      refine J.run b_X_item_29_2 k_X_item_29_2 rfl (show J w (d + 2) m_X_item (n0, z0, some (.int z.1), mk c z.2) 33 [some (.ref 33), some (.int x1), some (.int x2), some (.int x3), some (.int r9)] [.int r9] (mk c S10) from ?_)
      refine J.zeq (tgt := 39) d_X_item_33 rfl (fun q12 => ?_) (fun q12 => ?_)
      · have H := ite_t H q12
        refine J.run b_X_item_39_4 k_X_item_39_4 rfl (And.intro (okO_st (S := S10) rfl) (show J w (d + 2) m_X_item (n0, z0, some (.int z.1), mk c z.2) 45 [some (.ref 33), some (.int x1), some (.int x2), some (.int x3), some (.int r9)] [.int x3, .int x1, .ref 159] (mk c S10) from ?_))
        obtain ⟨r13, S14, h15, H⟩ := bd_e H
        refine J.callV (y := m_H_hasItem) (av := [.int x1, .int x3]) (rest := []) (q := 159) l_X_249 d_X_item_45 (isC_st rfl rfl) (c_H_hasItem w (d + 0) c  S10 x1 x3 h15) rfl (Nat.le_of_ble_eq_true rfl) ⟨Nat.le_refl _, Nat.le_refl _⟩ (show J w (d + 2) m_X_item (n0, z0, some (.int z.1), mk c z.2) 48 [some (.ref 33), some (.int x1), some (.int x2), some (.int x3), some (.int r9)] [.int r13] (mk c S14) from ?_)
        refine J.zeq (tgt := 66) d_X_item_48 rfl (fun q16 => ?_) (fun q16 => ?_)
        · have H := ite_t H q16
          refine J.run b_X_item_66_1 k_X_item_66_1 rfl (show J w (d + 2) m_X_item (n0, z0, some (.int z.1), mk c z.2) 68 [some (.ref 33), some (.int x1), some (.int x2), some (.int x3), some (.int r9)] [.int (-12 : Int32)] (mk c S14) from ?_)
          obtain rfl := some_e H
          exact J.iret d_X_item_68 rfl rfl
        · have H := ite_f H q16
          obtain ⟨g17, H⟩ := ck_e H
          obtain ⟨g18, H⟩ := ck_e H
          refine J.run b_X_item_51_8 k_X_item_51_8 rfl (And.intro (okO_st (S := S14) rfl) (And.intro (okO_st (S := S14) rfl) (And.intro (okQ_st (S := S14) (k := 24) (n := 4) rfl rfl g17) (And.intro (okA_row (S := S14) (b := 163) (cnt := 4) (n := 40) rfl (inb_lt g17) g18) (show J w (d + 2) m_X_item (n0, z0, some (.int z.1), mk c z.2) 63 [some (.ref 33), some (.int x1), some (.int x2), some (.int x3), some (.int r9)] [.int ((gJ S14 (163 + (x1).toNatClampNeg) (x3).toNatClampNeg).toInt32)] (mk c S14) from ?_)))))
          refine J.goto (tgt := 68) d_X_item_63 rfl ?_
          obtain rfl := some_e H
          exact J.iret d_X_item_68 rfl rfl
      · have H := ite_f H q12
        refine J.run b_X_item_36_1 k_X_item_36_1 rfl (show J w (d + 2) m_X_item (n0, z0, some (.int z.1), mk c z.2) 38 [some (.ref 33), some (.int x1), some (.int x2), some (.int x3), some (.int r9)] [.int r9] (mk c S10) from ?_)
        obtain rfl := some_e H
        exact J.iret d_X_item_38 rfl rfl
    · have H := ite_t H q8
      refine J.run b_X_item_18_1 k_X_item_18_1 rfl (show J w (d + 2) m_X_item (n0, z0, some (.int z.1), mk c z.2) 19 [some (.ref 33), some (.int x1), some (.int x2), some (.int x3), none] [.int (-1 : Int32)] (mk c S6) from ?_)
      obtain rfl := some_e H
      exact J.iret d_X_item_19 rfl rfl
def b_X_wides_0_3 : List Ins := [(.aload_n 0, 0, 0, 0), (.getfield 36, 0, 4, 2), (.iload_n 1, 0, 0, 0)]
theorem k_X_wides_0_3 : bok m_X_wides 0 b_X_wides_0_3 = true := by decide +kernel
def b_X_wides_21_1 : List Ins := [(.iconst (-1), 0, 0, 0)]
theorem k_X_wides_21_1 : bok m_X_wides 21 b_X_wides_21_1 = true := by decide +kernel
def b_X_wides_11_1 : List Ins := [(.iload_n 3, 0, 0, 0)]
theorem k_X_wides_11_1 : bok m_X_wides 11 b_X_wides_11_1 = true := by decide +kernel
def b_X_wides_15_2 : List Ins := [(.iload_n 3, 0, 0, 0), (.bipush (20), 0, 0, 0)]
theorem k_X_wides_15_2 : bok m_X_wides 15 b_X_wides_15_2 = true := by decide +kernel
def b_X_wides_23_4 : List Ins := [(.aload_n 0, 0, 0, 0), (.getfield 36, 0, 4, 2), (.iload_n 1, 0, 0, 0), (.iconst (0), 0, 0, 0)]
theorem k_X_wides_23_4 : bok m_X_wides 23 b_X_wides_23_4 = true := by decide +kernel
def b_X_wides_32_2 : List Ins := [(.istore 4, 0, 0, 0), (.iload 4, 0, 0, 0)]
theorem k_X_wides_32_2 : bok m_X_wides 32 b_X_wides_32_2 = true := by decide +kernel
def b_X_wides_42_4 : List Ins := [(.iconst (0), 0, 0, 0), (.istore 5, 0, 0, 0), (.iconst (0), 0, 0, 0), (.istore 6, 0, 0, 0)]
theorem k_X_wides_42_4 : bok m_X_wides 42 b_X_wides_42_4 = true := by decide +kernel
def b_X_wides_48_2 : List Ins := [(.iload 6, 0, 0, 0), (.iload_n 3, 0, 0, 0)]
theorem k_X_wides_48_2 : bok m_X_wides 48 b_X_wides_48_2 = true := by decide +kernel
def b_X_wides_106_1 : List Ins := [(.iload 5, 0, 0, 0)]
theorem k_X_wides_106_1 : bok m_X_wides 106 b_X_wides_106_1 = true := by decide +kernel
def b_X_wides_54_6 : List Ins := [(.aload_n 0, 0, 0, 0), (.getfield 36, 0, 4, 2), (.iload_n 1, 0, 0, 0), (.iload_n 2, 0, 0, 0), (.iload 6, 0, 0, 0), (.iadd, 0, 0, 0)]
theorem k_X_wides_54_6 : bok m_X_wides 54 b_X_wides_54_6 = true := by decide +kernel
def b_X_wides_72_12 : List Ins := [(.aload_n 0, 0, 0, 0), (.iload 6, 0, 0, 0), (.aload_n 0, 0, 0, 0), (.getfield 36, 0, 4, 2), (.getfield 252, 5, 2, 2), (.iload_n 1, 0, 0, 0), (.aaload, 0, 0, 0), (.iload_n 2, 0, 0, 0), (.iload 6, 0, 0, 0), (.iadd, 0, 0, 0), (.laload, 0, 0, 0), (.l2i, 0, 0, 0)]
theorem k_X_wides_72_12 : bok m_X_wides 72 b_X_wides_72_12 = true := by decide +kernel
def b_X_wides_93_1 : List Ins := [(.iconst (-1), 0, 0, 0)]
theorem k_X_wides_93_1 : bok m_X_wides 93 b_X_wides_93_1 = true := by decide +kernel
def b_X_wides_100_1 : List Ins := [(.iinc 6 (1), 0, 0, 0)]
theorem k_X_wides_100_1 : bok m_X_wides 100 b_X_wides_100_1 = true := by decide +kernel
def b_X_wides_97_2 : List Ins := [(.iinc 5 (1), 0, 0, 0), (.iinc 6 (1), 0, 0, 0)]
theorem k_X_wides_97_2 : bok m_X_wides 97 b_X_wides_97_2 = true := by decide +kernel
def b_X_wides_69_1 : List Ins := [(.bipush (-12), 0, 0, 0)]
theorem k_X_wides_69_1 : bok m_X_wides 69 b_X_wides_69_1 = true := by decide +kernel
def b_X_wides_39_1 : List Ins := [(.iload 4, 0, 0, 0)]
theorem k_X_wides_39_1 : bok m_X_wides 39 b_X_wides_39_1 = true := by decide +kernel
theorem d_X_wides_5 : decode m_X_wides.2.1 5 = .ok (.invokevirtual 236, 3) := by decide +kernel
theorem d_X_wides_8 : decode m_X_wides.2.1 8 = .ok (.ifCond .eq (13), 3) := by decide +kernel
theorem d_X_wides_22 : decode m_X_wides.2.1 22 = .ok (.ireturn, 1) := by decide +kernel
theorem d_X_wides_12 : decode m_X_wides.2.1 12 = .ok (.ifCond .lt (9), 3) := by decide +kernel
theorem d_X_wides_18 : decode m_X_wides.2.1 18 = .ok (.if_icmp .le (5), 3) := by decide +kernel
theorem d_X_wides_29 : decode m_X_wides.2.1 29 = .ok (.invokevirtual 260, 3) := by decide +kernel
theorem d_X_wides_36 : decode m_X_wides.2.1 36 = .ok (.ifCond .eq (6), 3) := by decide +kernel
theorem d_X_wides_51 : decode m_X_wides.2.1 51 = .ok (.if_icmp .ge (55), 3) := by decide +kernel
theorem d_X_wides_108 : decode m_X_wides.2.1 108 = .ok (.ireturn, 1) := by decide +kernel
theorem d_X_wides_63 : decode m_X_wides.2.1 63 = .ok (.invokevirtual 249, 3) := by decide +kernel
theorem d_X_wides_66 : decode m_X_wides.2.1 66 = .ok (.ifCond .ne (6), 3) := by decide +kernel
theorem d_X_wides_90 : decode m_X_wides.2.1 90 = .ok (.invokevirtual 263, 3) := by decide +kernel
theorem d_X_wides_94 : decode m_X_wides.2.1 94 = .ok (.if_icmp .eq (6), 3) := by decide +kernel
theorem d_X_wides_103 : decode m_X_wides.2.1 103 = .ok (.goto (-55), 3) := by decide +kernel
theorem d_X_wides_71 : decode m_X_wides.2.1 71 = .ok (.ireturn, 1) := by decide +kernel
theorem d_X_wides_41 : decode m_X_wides.2.1 41 = .ok (.ireturn, 1) := by decide +kernel
def lp_X_wides_48 (x1 : Int32) (x2 : Int32) (x3 : Int32)   : Nat → hs → Int32 → Int32 → Option (Int32 × hs)
  | 0, _, _, _ => none
  | n + 1, S, x5, x6 => (if x3 ≤ x6 then some (x5, S) else bd (f_H_hasItem  S x1 (x2 + x6)) fun r12 S13 => (if r12 = 0 then some ((-12 : Int32), S13) else ck (inb x1 4) (ck (inb (x2 + x6) 40) (bd (f_X_widen  S13 x6 ((gJ S13 (163 + (x1).toNatClampNeg) ((x2 + x6)).toNatClampNeg).toInt32)) fun r18 S19 => (if r18 = (-1 : Int32) then lp_X_wides_48 x1 x2 x3 n S19 x5 (x6 + (1 : Int32)) else lp_X_wides_48 x1 x2 x3 n S19 (x5 + (1 : Int32)) (x6 + (1 : Int32)))))))
def f_X_wides  (S : hs) (x1 : Int32) (x2 : Int32) (x3 : Int32) : Option (Int32 × hs) := bd (f_H_hasSheet  S x1) fun r1 S2 => (if r1 = 0 then some ((-1 : Int32), S2) else (if x3 < 0 then some ((-1 : Int32), S2) else (if x3 ≤ (20 : Int32) then bd (f_H_refuseAs  S2 x1 (0 : Int32)) fun r7 S8 => (if r7 = 0 then lp_X_wides_48 x1 x2 x3 1000 S8 (0 : Int32) (0 : Int32) else some (r7, S8)) else some ((-1 : Int32), S2))))
theorem lo_X_wides_48 (w : Wd) (d : Nat) (c : cx) {n0 z0 : Nat} {z : Int32 × hs}   (x1 : Int32) (x2 : Int32) (x3 : Int32)    :
    ∀ (n : Nat) (S : hs) (x5 : Int32) (x6 : Int32), lp_X_wides_48 x1 x2 x3 n S x5 x6 = some z → J w (d + 3) m_X_wides (n0, z0, some (.int z.1), mk c z.2) 48 [some (.ref 33), some (.int x1), some (.int x2), some (.int x3), none, some (.int x5), some (.int x6)] [] (mk c S) := by
  intro n
  induction n with
  | zero => intro S x5 x6 H; cases H
  | succ n ih =>
    intro S x5 x6 H
    rw [lp_X_wides_48] at H
    refine J.run b_X_wides_48_2 k_X_wides_48_2 rfl (show J w (d + 3) m_X_wides (n0, z0, some (.int z.1), mk c z.2) 51 [some (.ref 33), some (.int x1), some (.int x2), some (.int x3), none, some (.int x5), some (.int x6)] [.int x3, .int x6] (mk c S) from ?_)
    refine J.cge (tgt := 106) d_X_wides_51 rfl (fun q11 => ?_) (fun q11 => ?_)
    · have H := ite_t H q11
      refine J.run b_X_wides_106_1 k_X_wides_106_1 rfl (show J w (d + 3) m_X_wides (n0, z0, some (.int z.1), mk c z.2) 108 [some (.ref 33), some (.int x1), some (.int x2), some (.int x3), none, some (.int x5), some (.int x6)] [.int x5] (mk c S) from ?_)
      obtain rfl := some_e H
      exact J.iret d_X_wides_108 rfl rfl
    · have H := ite_f H q11
      refine J.run b_X_wides_54_6 k_X_wides_54_6 rfl (And.intro (okO_st (S := S) rfl) (show J w (d + 3) m_X_wides (n0, z0, some (.int z.1), mk c z.2) 63 [some (.ref 33), some (.int x1), some (.int x2), some (.int x3), none, some (.int x5), some (.int x6)] [.int (x2 + x6), .int x1, .ref 159] (mk c S) from ?_))
      obtain ⟨r12, S13, h14, H⟩ := bd_e H
      refine J.callV (y := m_H_hasItem) (av := [.int x1, .int (x2 + x6)]) (rest := []) (q := 159) l_X_249 d_X_wides_63 (isC_st rfl rfl) (c_H_hasItem w (d + 1) c  S x1 (x2 + x6) h14) rfl (Nat.le_of_ble_eq_true rfl) ⟨Nat.le_refl _, Nat.le_refl _⟩ (show J w (d + 3) m_X_wides (n0, z0, some (.int z.1), mk c z.2) 66 [some (.ref 33), some (.int x1), some (.int x2), some (.int x3), none, some (.int x5), some (.int x6)] [.int r12] (mk c S13) from ?_)
      refine J.zne (tgt := 72) d_X_wides_66 rfl (fun q15 => ?_) (fun q15 => ?_)
      · have H := ite_f H q15
        obtain ⟨g16, H⟩ := ck_e H
        obtain ⟨g17, H⟩ := ck_e H
        refine J.run b_X_wides_72_12 k_X_wides_72_12 rfl (And.intro (okO_st (S := S13) rfl) (And.intro (okO_st (S := S13) rfl) (And.intro (okQ_st (S := S13) (k := 24) (n := 4) rfl rfl g16) (And.intro (okA_row (S := S13) (b := 163) (cnt := 4) (n := 40) rfl (inb_lt g16) g17) (show J w (d + 3) m_X_wides (n0, z0, some (.int z.1), mk c z.2) 90 [some (.ref 33), some (.int x1), some (.int x2), some (.int x3), none, some (.int x5), some (.int x6)] [.int ((gJ S13 (163 + (x1).toNatClampNeg) ((x2 + x6)).toNatClampNeg).toInt32), .int x6, .ref 33] (mk c S13) from ?_)))))
        obtain ⟨r18, S19, h20, H⟩ := bd_e H
        refine J.callV (y := m_X_widen) (av := [.int x6, .int ((gJ S13 (163 + (x1).toNatClampNeg) ((x2 + x6)).toNatClampNeg).toInt32)]) (rest := []) (q := 33) l_X_263 d_X_wides_90 (isC_st rfl rfl) (c_X_widen w (d + 0) c  S13 x6 ((gJ S13 (163 + (x1).toNatClampNeg) ((x2 + x6)).toNatClampNeg).toInt32) h20) rfl (Nat.le_of_ble_eq_true rfl) ⟨Nat.le_refl _, Nat.le_refl _⟩ (show J w (d + 3) m_X_wides (n0, z0, some (.int z.1), mk c z.2) 93 [some (.ref 33), some (.int x1), some (.int x2), some (.int x3), none, some (.int x5), some (.int x6)] [.int r18] (mk c S19) from ?_)
        refine J.run b_X_wides_93_1 k_X_wides_93_1 rfl (show J w (d + 3) m_X_wides (n0, z0, some (.int z.1), mk c z.2) 94 [some (.ref 33), some (.int x1), some (.int x2), some (.int x3), none, some (.int x5), some (.int x6)] [.int (-1 : Int32), .int r18] (mk c S19) from ?_)
        refine J.ceq (tgt := 100) d_X_wides_94 rfl (fun q21 => ?_) (fun q21 => ?_)
        · have H := ite_t H q21
          refine J.run b_X_wides_100_1 k_X_wides_100_1 rfl (show J w (d + 3) m_X_wides (n0, z0, some (.int z.1), mk c z.2) 103 [some (.ref 33), some (.int x1), some (.int x2), some (.int x3), none, some (.int x5), some (.int (x6 + (1 : Int32)))] [] (mk c S19) from ?_)
          refine J.goto (tgt := 48) d_X_wides_103 rfl ?_
          refine J.mask [true, true, true, true, false, true, true] ?_
          exact ih S19 x5 (x6 + (1 : Int32)) H
        · have H := ite_f H q21
          refine J.run b_X_wides_97_2 k_X_wides_97_2 rfl (show J w (d + 3) m_X_wides (n0, z0, some (.int z.1), mk c z.2) 103 [some (.ref 33), some (.int x1), some (.int x2), some (.int x3), none, some (.int (x5 + (1 : Int32))), some (.int (x6 + (1 : Int32)))] [] (mk c S19) from ?_)
          refine J.goto (tgt := 48) d_X_wides_103 rfl ?_
          refine J.mask [true, true, true, true, false, true, true] ?_
          exact ih S19 (x5 + (1 : Int32)) (x6 + (1 : Int32)) H
      · have H := ite_t H q15
        refine J.run b_X_wides_69_1 k_X_wides_69_1 rfl (show J w (d + 3) m_X_wides (n0, z0, some (.int z.1), mk c z.2) 71 [some (.ref 33), some (.int x1), some (.int x2), some (.int x3), none, some (.int x5), some (.int x6)] [.int (-12 : Int32)] (mk c S13) from ?_)
        obtain rfl := some_e H
        exact J.iret d_X_wides_71 rfl rfl
theorem c_X_wides (w : Wd) (d : Nat) (c : cx)   (S : hs) (x1 : Int32) (x2 : Int32) (x3 : Int32)  {z : Int32 × hs} (H : f_X_wides S x1 x2 x3 = some z) : Cl w (d + 3) m_X_wides [.ref 33, .int x1, .int x2, .int x3] (mk c S) (some (.int z.1)) (mk c z.2) := by
  refine Cl.of (Nat.le_refl _) (Nat.le_refl _) (by decide +kernel) (Nat.le_of_ble_eq_true rfl) ?_
  unfold f_X_wides at H
  generalize hN (mk c S) = n0
  generalize hZ (mk c S) = z0
  show J w (d + 3) m_X_wides (n0, z0, some (.int z.1), mk c z.2) 0 [some (.ref 33), some (.int x1), some (.int x2), some (.int x3), none, none, none] [] (mk c S)
  refine J.run b_X_wides_0_3 k_X_wides_0_3 rfl (And.intro (okO_st (S := S) rfl) (show J w (d + 3) m_X_wides (n0, z0, some (.int z.1), mk c z.2) 5 [some (.ref 33), some (.int x1), some (.int x2), some (.int x3), none, none, none] [.int x1, .ref 159] (mk c S) from ?_))
  obtain ⟨r1, S2, h3, H⟩ := bd_e H
  refine J.callV (y := m_H_hasSheet) (av := [.int x1]) (rest := []) (q := 159) l_X_236 d_X_wides_5 (isC_st rfl rfl) (c_H_hasSheet w (d + 1) c  S x1 h3) rfl (Nat.le_of_ble_eq_true rfl) ⟨Nat.le_refl _, Nat.le_refl _⟩ (show J w (d + 3) m_X_wides (n0, z0, some (.int z.1), mk c z.2) 8 [some (.ref 33), some (.int x1), some (.int x2), some (.int x3), none, none, none] [.int r1] (mk c S2) from ?_)
  refine J.zeq (tgt := 21) d_X_wides_8 rfl (fun q4 => ?_) (fun q4 => ?_)
  · have H := ite_t H q4
    refine J.run b_X_wides_21_1 k_X_wides_21_1 rfl (show J w (d + 3) m_X_wides (n0, z0, some (.int z.1), mk c z.2) 22 [some (.ref 33), some (.int x1), some (.int x2), some (.int x3), none, none, none] [.int (-1 : Int32)] (mk c S2) from ?_)
    obtain rfl := some_e H
    exact J.iret d_X_wides_22 rfl rfl
  · have H := ite_f H q4
    refine J.run b_X_wides_11_1 k_X_wides_11_1 rfl (show J w (d + 3) m_X_wides (n0, z0, some (.int z.1), mk c z.2) 12 [some (.ref 33), some (.int x1), some (.int x2), some (.int x3), none, none, none] [.int x3] (mk c S2) from ?_)
    refine J.zlt (tgt := 21) d_X_wides_12 rfl (fun q5 => ?_) (fun q5 => ?_)
    · have H := ite_t H q5
      refine J.run b_X_wides_21_1 k_X_wides_21_1 rfl (show J w (d + 3) m_X_wides (n0, z0, some (.int z.1), mk c z.2) 22 [some (.ref 33), some (.int x1), some (.int x2), some (.int x3), none, none, none] [.int (-1 : Int32)] (mk c S2) from ?_)
      obtain rfl := some_e H
      exact J.iret d_X_wides_22 rfl rfl
    · have H := ite_f H q5
      refine J.run b_X_wides_15_2 k_X_wides_15_2 rfl (show J w (d + 3) m_X_wides (n0, z0, some (.int z.1), mk c z.2) 18 [some (.ref 33), some (.int x1), some (.int x2), some (.int x3), none, none, none] [.int (20 : Int32), .int x3] (mk c S2) from ?_)
      refine J.cle (tgt := 23) d_X_wides_18 rfl (fun q6 => ?_) (fun q6 => ?_)
      · have H := ite_t H q6
        refine J.run b_X_wides_23_4 k_X_wides_23_4 rfl (And.intro (okO_st (S := S2) rfl) (show J w (d + 3) m_X_wides (n0, z0, some (.int z.1), mk c z.2) 29 [some (.ref 33), some (.int x1), some (.int x2), some (.int x3), none, none, none] [.int (0 : Int32), .int x1, .ref 159] (mk c S2) from ?_))
        obtain ⟨r7, S8, h9, H⟩ := bd_e H
        refine J.callV (y := m_H_refuseAs) (av := [.int x1, .int (0 : Int32)]) (rest := []) (q := 159) l_X_260 d_X_wides_29 (isC_st rfl rfl) (c_H_refuseAs w (d + 1) c  S2 x1 (0 : Int32) h9) rfl (Nat.le_of_ble_eq_true rfl) ⟨Nat.le_refl _, Nat.le_refl _⟩ (show J w (d + 3) m_X_wides (n0, z0, some (.int z.1), mk c z.2) 32 [some (.ref 33), some (.int x1), some (.int x2), some (.int x3), none, none, none] [.int r7] (mk c S8) from ?_)
        refine J.run b_X_wides_32_2 k_X_wides_32_2 rfl (show J w (d + 3) m_X_wides (n0, z0, some (.int z.1), mk c z.2) 36 [some (.ref 33), some (.int x1), some (.int x2), some (.int x3), some (.int r7), none, none] [.int r7] (mk c S8) from ?_)
        refine J.zeq (tgt := 42) d_X_wides_36 rfl (fun q10 => ?_) (fun q10 => ?_)
        · have H := ite_t H q10
          refine J.run b_X_wides_42_4 k_X_wides_42_4 rfl (show J w (d + 3) m_X_wides (n0, z0, some (.int z.1), mk c z.2) 48 [some (.ref 33), some (.int x1), some (.int x2), some (.int x3), some (.int r7), some (.int (0 : Int32)), some (.int (0 : Int32))] [] (mk c S8) from ?_)
          refine J.mask [true, true, true, true, false, true, true] ?_
          refine lo_X_wides_48 w d c x1 x2 x3  1000 S8 (0 : Int32) (0 : Int32) H
        · have H := ite_f H q10
          refine J.run b_X_wides_39_1 k_X_wides_39_1 rfl (show J w (d + 3) m_X_wides (n0, z0, some (.int z.1), mk c z.2) 41 [some (.ref 33), some (.int x1), some (.int x2), some (.int x3), some (.int r7), none, none] [.int r7] (mk c S8) from ?_)
          obtain rfl := some_e H
          exact J.iret d_X_wides_41 rfl rfl
      · have H := ite_f H q6
        refine J.run b_X_wides_21_1 k_X_wides_21_1 rfl (show J w (d + 3) m_X_wides (n0, z0, some (.int z.1), mk c z.2) 22 [some (.ref 33), some (.int x1), some (.int x2), some (.int x3), none, none, none] [.int (-1 : Int32)] (mk c S2) from ?_)
        obtain rfl := some_e H
        exact J.iret d_X_wides_22 rfl rfl
def b_H_hasShelf_0_1 : List Ins := [(.iload_n 1, 0, 0, 0)]
theorem k_H_hasShelf_0_1 : bok m_H_hasShelf 0 b_H_hasShelf_0_1 = true := by decide +kernel
def b_H_hasShelf_13_1 : List Ins := [(.iconst (0), 0, 0, 0)]
theorem k_H_hasShelf_13_1 : bok m_H_hasShelf 13 b_H_hasShelf_13_1 = true := by decide +kernel
def b_H_hasShelf_4_2 : List Ins := [(.iload_n 1, 0, 0, 0), (.iconst (4), 0, 0, 0)]
theorem k_H_hasShelf_4_2 : bok m_H_hasShelf 4 b_H_hasShelf_4_2 = true := by decide +kernel
def b_H_hasShelf_9_1 : List Ins := [(.iconst (1), 0, 0, 0)]
theorem k_H_hasShelf_9_1 : bok m_H_hasShelf 9 b_H_hasShelf_9_1 = true := by decide +kernel
theorem d_H_hasShelf_1 : decode m_H_hasShelf.2.1 1 = .ok (.ifCond .lt (12), 3) := by decide +kernel
theorem d_H_hasShelf_14 : decode m_H_hasShelf.2.1 14 = .ok (.ireturn, 1) := by decide +kernel
theorem d_H_hasShelf_6 : decode m_H_hasShelf.2.1 6 = .ok (.if_icmp .ge (7), 3) := by decide +kernel
theorem d_H_hasShelf_10 : decode m_H_hasShelf.2.1 10 = .ok (.goto (4), 3) := by decide +kernel
def f_H_hasShelf  (S : hs) (x1 : Int32) : Option (Int32 × hs) := (if x1 < 0 then some ((0 : Int32), S) else (if (4 : Int32) ≤ x1 then some ((0 : Int32), S) else some ((1 : Int32), S)))
theorem c_H_hasShelf (w : Wd) (d : Nat) (c : cx)   (S : hs) (x1 : Int32)  {z : Int32 × hs} (H : f_H_hasShelf S x1 = some z) : Cl w (d + 1) m_H_hasShelf [.ref 159, .int x1] (mk c S) (some (.int z.1)) (mk c z.2) := by
  refine Cl.of (Nat.le_refl _) (Nat.le_refl _) (by decide +kernel) (Nat.le_of_ble_eq_true rfl) ?_
  unfold f_H_hasShelf at H
  generalize hN (mk c S) = n0
  generalize hZ (mk c S) = z0
  show J w (d + 1) m_H_hasShelf (n0, z0, some (.int z.1), mk c z.2) 0 [some (.ref 159), some (.int x1)] [] (mk c S)
  refine J.run b_H_hasShelf_0_1 k_H_hasShelf_0_1 rfl (show J w (d + 1) m_H_hasShelf (n0, z0, some (.int z.1), mk c z.2) 1 [some (.ref 159), some (.int x1)] [.int x1] (mk c S) from ?_)
  refine J.zlt (tgt := 13) d_H_hasShelf_1 rfl (fun q1 => ?_) (fun q1 => ?_)
  · have H := ite_t H q1
    refine J.run b_H_hasShelf_13_1 k_H_hasShelf_13_1 rfl (show J w (d + 1) m_H_hasShelf (n0, z0, some (.int z.1), mk c z.2) 14 [some (.ref 159), some (.int x1)] [.int (0 : Int32)] (mk c S) from ?_)
    obtain rfl := some_e H
    exact J.nret d_H_hasShelf_14 rfl rfl rfl
  · have H := ite_f H q1
    refine J.run b_H_hasShelf_4_2 k_H_hasShelf_4_2 rfl (show J w (d + 1) m_H_hasShelf (n0, z0, some (.int z.1), mk c z.2) 6 [some (.ref 159), some (.int x1)] [.int (4 : Int32), .int x1] (mk c S) from ?_)
    refine J.cge (tgt := 13) d_H_hasShelf_6 rfl (fun q2 => ?_) (fun q2 => ?_)
    · have H := ite_t H q2
      refine J.run b_H_hasShelf_13_1 k_H_hasShelf_13_1 rfl (show J w (d + 1) m_H_hasShelf (n0, z0, some (.int z.1), mk c z.2) 14 [some (.ref 159), some (.int x1)] [.int (0 : Int32)] (mk c S) from ?_)
      obtain rfl := some_e H
      exact J.nret d_H_hasShelf_14 rfl rfl rfl
    · have H := ite_f H q2
      refine J.run b_H_hasShelf_9_1 k_H_hasShelf_9_1 rfl (show J w (d + 1) m_H_hasShelf (n0, z0, some (.int z.1), mk c z.2) 10 [some (.ref 159), some (.int x1)] [.int (1 : Int32)] (mk c S) from ?_)
      refine J.goto (tgt := 14) d_H_hasShelf_10 rfl ?_
      obtain rfl := some_e H
      exact J.nret d_H_hasShelf_14 rfl rfl rfl
def b_H_hold_0_16 : List Ins := [(.aload_n 0, 0, 0, 0), (.getfield 23, 5, 3, 2), (.iload_n 1, 0, 0, 0), (.iload_n 2, 0, 0, 0), (.iastore, 0, 0, 0), (.aload_n 0, 0, 0, 0), (.getfield 26, 5, 4, 2), (.iload_n 1, 0, 0, 0), (.iload_n 3, 0, 0, 0), (.iastore, 0, 0, 0), (.aload_n 0, 0, 0, 0), (.getfield 29, 5, 5, 2), (.iload_n 1, 0, 0, 0), (.iload 4, 0, 0, 0), (.iastore, 0, 0, 0), (.iconst (1), 0, 0, 0)]
theorem k_H_hold_0_16 : bok m_H_hold 0 b_H_hold_0_16 = true := by decide +kernel
theorem d_H_hold_23 : decode m_H_hold.2.1 23 = .ok (.ireturn, 1) := by decide +kernel
def f_H_hold  (S : hs) (x1 : Int32) (x2 : Int32) (x3 : Int32) (x4 : Int32) : Option (Int32 × hs) := ck (inb x1 4) (some ((1 : Int32), (uI (uI (uI S 167 (x1).toNatClampNeg x2) 168 (x1).toNatClampNeg x3) 169 (x1).toNatClampNeg x4)))
theorem c_H_hold (w : Wd) (d : Nat) (c : cx)   (S : hs) (x1 : Int32) (x2 : Int32) (x3 : Int32) (x4 : Int32)  {z : Int32 × hs} (H : f_H_hold S x1 x2 x3 x4 = some z) : Cl w (d + 1) m_H_hold [.ref 159, .int x1, .int x2, .int x3, .int x4] (mk c S) (some (.int z.1)) (mk c z.2) := by
  refine Cl.of (Nat.le_refl _) (Nat.le_refl _) (by decide +kernel) (Nat.le_of_ble_eq_true rfl) ?_
  unfold f_H_hold at H
  generalize hN (mk c S) = n0
  generalize hZ (mk c S) = z0
  show J w (d + 1) m_H_hold (n0, z0, some (.int z.1), mk c z.2) 0 [some (.ref 159), some (.int x1), some (.int x2), some (.int x3), some (.int x4)] [] (mk c S)
  obtain ⟨g1, H⟩ := ck_e H
  refine J.run b_H_hold_0_16 k_H_hold_0_16 rfl (And.intro (okO_st (S := S) rfl) (And.intro (okB_st (S := S) (n := 4) rfl g1) (And.intro (okO_st (S := (uI S 167 (x1).toNatClampNeg x2)) rfl) (And.intro (okB_st (S := (uI S 167 (x1).toNatClampNeg x2)) (n := 4) rfl g1) (And.intro (okO_st (S := (uI (uI S 167 (x1).toNatClampNeg x2) 168 (x1).toNatClampNeg x3)) rfl) (And.intro (okB_st (S := (uI (uI S 167 (x1).toNatClampNeg x2) 168 (x1).toNatClampNeg x3)) (n := 4) rfl g1) (show J w (d + 1) m_H_hold (n0, z0, some (.int z.1), mk c z.2) 23 [some (.ref 159), some (.int x1), some (.int x2), some (.int x3), some (.int x4)] [.int (1 : Int32)] (mk c (uI (uI (uI S 167 (x1).toNatClampNeg x2) 168 (x1).toNatClampNeg x3) 169 (x1).toNatClampNeg x4)) from ?_)))))))
  obtain rfl := some_e H
  exact J.iret d_H_hold_23 rfl rfl
def b_X_shelveTurn_0_1 : List Ins := [(.iload_n 2, 0, 0, 0)]
theorem k_X_shelveTurn_0_1 : bok m_X_shelveTurn 0 b_X_shelveTurn_0_1 = true := by decide +kernel
def b_X_shelveTurn_14_1 : List Ins := [(.iconst (-1), 0, 0, 0)]
theorem k_X_shelveTurn_14_1 : bok m_X_shelveTurn 14 b_X_shelveTurn_14_1 = true := by decide +kernel
def b_X_shelveTurn_7_1 : List Ins := [(.iload_n 3, 0, 0, 0)]
theorem k_X_shelveTurn_7_1 : bok m_X_shelveTurn 7 b_X_shelveTurn_7_1 = true := by decide +kernel
def b_X_shelveTurn_16_4 : List Ins := [(.aload_n 0, 0, 0, 0), (.getfield 10, 0, 0, 2), (.iload_n 2, 0, 0, 0), (.iload_n 3, 0, 0, 0)]
theorem k_X_shelveTurn_16_4 : bok m_X_shelveTurn 16 b_X_shelveTurn_16_4 = true := by decide +kernel
def b_X_shelveTurn_25_1 : List Ins := [(.iconst (-1), 0, 0, 0)]
theorem k_X_shelveTurn_25_1 : bok m_X_shelveTurn 25 b_X_shelveTurn_25_1 = true := by decide +kernel
def b_X_shelveTurn_34_6 : List Ins := [(.aload_n 0, 0, 0, 0), (.getfield 36, 0, 4, 2), (.iload_n 1, 0, 0, 0), (.iconst (1), 0, 0, 0), (.iload_n 2, 0, 0, 0), (.iload_n 3, 0, 0, 0)]
theorem k_X_shelveTurn_34_6 : bok m_X_shelveTurn 34 b_X_shelveTurn_34_6 = true := by decide +kernel
def b_X_shelveTurn_29_1 : List Ins := [(.bipush (-3), 0, 0, 0)]
theorem k_X_shelveTurn_29_1 : bok m_X_shelveTurn 29 b_X_shelveTurn_29_1 = true := by decide +kernel
theorem d_X_shelveTurn_1 : decode m_X_shelveTurn.2.1 1 = .ok (.invokestatic 125, 3) := by decide +kernel
theorem d_X_shelveTurn_4 : decode m_X_shelveTurn.2.1 4 = .ok (.ifCond .eq (10), 3) := by decide +kernel
theorem d_X_shelveTurn_15 : decode m_X_shelveTurn.2.1 15 = .ok (.ireturn, 1) := by decide +kernel
theorem d_X_shelveTurn_8 : decode m_X_shelveTurn.2.1 8 = .ok (.invokestatic 125, 3) := by decide +kernel
theorem d_X_shelveTurn_11 : decode m_X_shelveTurn.2.1 11 = .ok (.ifCond .ne (5), 3) := by decide +kernel
theorem d_X_shelveTurn_22 : decode m_X_shelveTurn.2.1 22 = .ok (.invokevirtual 128, 3) := by decide +kernel
theorem d_X_shelveTurn_26 : decode m_X_shelveTurn.2.1 26 = .ok (.if_icmp .ne (8), 3) := by decide +kernel
theorem d_X_shelveTurn_42 : decode m_X_shelveTurn.2.1 42 = .ok (.invokevirtual 276, 3) := by decide +kernel
theorem d_X_shelveTurn_45 : decode m_X_shelveTurn.2.1 45 = .ok (.ireturn, 1) := by decide +kernel
theorem d_X_shelveTurn_31 : decode m_X_shelveTurn.2.1 31 = .ok (.goto (14), 3) := by decide +kernel
def f_X_shelveTurn  (S : hs) (x1 : Int32) (x2 : Int32) (x3 : Int32) : Option (Int32 × hs) := bd (f_X_isCourseNumber  S x2) fun r1 S2 => (if r1 = 0 then some ((-1 : Int32), S2) else bd (f_X_isCourseNumber  S2 x3) fun r5 S6 => (if r5 = 0 then some ((-1 : Int32), S6) else bd (f_T_turnNow  S6 x2 x3) fun r9 S10 => (if r9 = (-1 : Int32) then some ((-3 : Int32), S10) else bd (f_H_hold  S10 x1 (1 : Int32) x2 x3) fun r13 S14 => some (r13, S14))))
theorem c_X_shelveTurn (w : Wd) (d : Nat) (c : cx)   (S : hs) (x1 : Int32) (x2 : Int32) (x3 : Int32)  {z : Int32 × hs} (H : f_X_shelveTurn S x1 x2 x3 = some z) : Cl w (d + 5) m_X_shelveTurn [.ref 33, .int x1, .int x2, .int x3] (mk c S) (some (.int z.1)) (mk c z.2) := by
  refine Cl.of (Nat.le_refl _) (Nat.le_refl _) (by decide +kernel) (Nat.le_of_ble_eq_true rfl) ?_
  unfold f_X_shelveTurn at H
  generalize hN (mk c S) = n0
  generalize hZ (mk c S) = z0
  show J w (d + 5) m_X_shelveTurn (n0, z0, some (.int z.1), mk c z.2) 0 [some (.ref 33), some (.int x1), some (.int x2), some (.int x3)] [] (mk c S)
  refine J.run b_X_shelveTurn_0_1 k_X_shelveTurn_0_1 rfl (show J w (d + 5) m_X_shelveTurn (n0, z0, some (.int z.1), mk c z.2) 1 [some (.ref 33), some (.int x1), some (.int x2), some (.int x3)] [.int x2] (mk c S) from ?_)
  obtain ⟨r1, S2, h3, H⟩ := bd_e H
  refine J.callS (y := m_X_isCourseNumber) (av := [.int x2]) (rest := []) l_X_125 d_X_shelveTurn_1 (c_X_isCourseNumber w (d + 3) c  S x2 h3) rfl (Nat.le_of_ble_eq_true rfl) ⟨Nat.le_refl _, Nat.le_refl _⟩ (show J w (d + 5) m_X_shelveTurn (n0, z0, some (.int z.1), mk c z.2) 4 [some (.ref 33), some (.int x1), some (.int x2), some (.int x3)] [.int r1] (mk c S2) from ?_)
  refine J.zeq (tgt := 14) d_X_shelveTurn_4 rfl (fun q4 => ?_) (fun q4 => ?_)
  · have H := ite_t H q4
    refine J.run b_X_shelveTurn_14_1 k_X_shelveTurn_14_1 rfl (show J w (d + 5) m_X_shelveTurn (n0, z0, some (.int z.1), mk c z.2) 15 [some (.ref 33), some (.int x1), some (.int x2), some (.int x3)] [.int (-1 : Int32)] (mk c S2) from ?_)
    obtain rfl := some_e H
    exact J.iret d_X_shelveTurn_15 rfl rfl
  · have H := ite_f H q4
    refine J.run b_X_shelveTurn_7_1 k_X_shelveTurn_7_1 rfl (show J w (d + 5) m_X_shelveTurn (n0, z0, some (.int z.1), mk c z.2) 8 [some (.ref 33), some (.int x1), some (.int x2), some (.int x3)] [.int x3] (mk c S2) from ?_)
    obtain ⟨r5, S6, h7, H⟩ := bd_e H
    refine J.callS (y := m_X_isCourseNumber) (av := [.int x3]) (rest := []) l_X_125 d_X_shelveTurn_8 (c_X_isCourseNumber w (d + 3) c  S2 x3 h7) rfl (Nat.le_of_ble_eq_true rfl) ⟨Nat.le_refl _, Nat.le_refl _⟩ (show J w (d + 5) m_X_shelveTurn (n0, z0, some (.int z.1), mk c z.2) 11 [some (.ref 33), some (.int x1), some (.int x2), some (.int x3)] [.int r5] (mk c S6) from ?_)
    refine J.zne (tgt := 16) d_X_shelveTurn_11 rfl (fun q8 => ?_) (fun q8 => ?_)
    · have H := ite_f H q8
      refine J.run b_X_shelveTurn_16_4 k_X_shelveTurn_16_4 rfl (And.intro (okO_st (S := S6) rfl) (show J w (d + 5) m_X_shelveTurn (n0, z0, some (.int z.1), mk c z.2) 22 [some (.ref 33), some (.int x1), some (.int x2), some (.int x3)] [.int x3, .int x2, .ref 34] (mk c S6) from ?_))
      obtain ⟨r9, S10, h11, H⟩ := bd_e H
      refine J.callV (y := m_T_turnNow) (av := [.int x2, .int x3]) (rest := []) (q := 34) l_X_128 d_X_shelveTurn_22 (isC_st rfl rfl) (c_T_turnNow w (d + 0) c  S6 x2 x3 h11) rfl (Nat.le_of_ble_eq_true rfl) ⟨Nat.le_refl _, Nat.le_refl _⟩ (show J w (d + 5) m_X_shelveTurn (n0, z0, some (.int z.1), mk c z.2) 25 [some (.ref 33), some (.int x1), some (.int x2), some (.int x3)] [.int r9] (mk c S10) from ?_)
      refine J.run b_X_shelveTurn_25_1 k_X_shelveTurn_25_1 rfl (show J w (d + 5) m_X_shelveTurn (n0, z0, some (.int z.1), mk c z.2) 26 [some (.ref 33), some (.int x1), some (.int x2), some (.int x3)] [.int (-1 : Int32), .int r9] (mk c S10) from ?_)
      refine J.cne (tgt := 34) d_X_shelveTurn_26 rfl (fun q12 => ?_) (fun q12 => ?_)
      · have H := ite_f H q12
        refine J.run b_X_shelveTurn_34_6 k_X_shelveTurn_34_6 rfl (And.intro (okO_st (S := S10) rfl) (show J w (d + 5) m_X_shelveTurn (n0, z0, some (.int z.1), mk c z.2) 42 [some (.ref 33), some (.int x1), some (.int x2), some (.int x3)] [.int x3, .int x2, .int (1 : Int32), .int x1, .ref 159] (mk c S10) from ?_))
        obtain ⟨r13, S14, h15, H⟩ := bd_e H
        refine J.callV (y := m_H_hold) (av := [.int x1, .int (1 : Int32), .int x2, .int x3]) (rest := []) (q := 159) l_X_276 d_X_shelveTurn_42 (isC_st rfl rfl) (c_H_hold w (d + 3) c  S10 x1 (1 : Int32) x2 x3 h15) rfl (Nat.le_of_ble_eq_true rfl) ⟨Nat.le_refl _, Nat.le_refl _⟩ (show J w (d + 5) m_X_shelveTurn (n0, z0, some (.int z.1), mk c z.2) 45 [some (.ref 33), some (.int x1), some (.int x2), some (.int x3)] [.int r13] (mk c S14) from ?_)
        obtain rfl := some_e H
        exact J.iret d_X_shelveTurn_45 rfl rfl
      · have H := ite_t H q12
        refine J.run b_X_shelveTurn_29_1 k_X_shelveTurn_29_1 rfl (show J w (d + 5) m_X_shelveTurn (n0, z0, some (.int z.1), mk c z.2) 31 [some (.ref 33), some (.int x1), some (.int x2), some (.int x3)] [.int (-3 : Int32)] (mk c S10) from ?_)
        refine J.goto (tgt := 45) d_X_shelveTurn_31 rfl ?_
        obtain rfl := some_e H
        exact J.iret d_X_shelveTurn_45 rfl rfl
    · have H := ite_t H q8
      refine J.run b_X_shelveTurn_14_1 k_X_shelveTurn_14_1 rfl (show J w (d + 5) m_X_shelveTurn (n0, z0, some (.int z.1), mk c z.2) 15 [some (.ref 33), some (.int x1), some (.int x2), some (.int x3)] [.int (-1 : Int32)] (mk c S6) from ?_)
      obtain rfl := some_e H
      exact J.iret d_X_shelveTurn_15 rfl rfl
def b_H_shelveRow_0_5 : List Ins := [(.aload_n 0, 0, 0, 0), (.getfield 9, 5, 0, 2), (.iload_n 2, 0, 0, 0), (.iaload, 0, 0, 0), (.iconst (-1), 0, 0, 0)]
theorem k_H_shelveRow_0_5 : bok m_H_shelveRow 0 b_H_shelveRow_0_5 = true := by decide +kernel
def b_H_shelveRow_14_13 : List Ins := [(.iconst (2), 0, 0, 0), (.istore_n 3, 0, 0, 0), (.aload_n 0, 0, 0, 0), (.iload_n 1, 0, 0, 0), (.iload_n 3, 0, 0, 0), (.aload_n 0, 0, 0, 0), (.getfield 9, 5, 0, 2), (.iload_n 2, 0, 0, 0), (.iaload, 0, 0, 0), (.aload_n 0, 0, 0, 0), (.getfield 15, 5, 1, 2), (.iload_n 2, 0, 0, 0), (.iaload, 0, 0, 0)]
theorem k_H_shelveRow_14_13 : bok m_H_shelveRow 14 b_H_shelveRow_14_13 = true := by decide +kernel
def b_H_shelveRow_10_1 : List Ins := [(.iconst (0), 0, 0, 0)]
theorem k_H_shelveRow_10_1 : bok m_H_shelveRow 10 b_H_shelveRow_10_1 = true := by decide +kernel
def b_H_shelveRow_15_12 : List Ins := [(.istore_n 3, 0, 0, 0), (.aload_n 0, 0, 0, 0), (.iload_n 1, 0, 0, 0), (.iload_n 3, 0, 0, 0), (.aload_n 0, 0, 0, 0), (.getfield 9, 5, 0, 2), (.iload_n 2, 0, 0, 0), (.iaload, 0, 0, 0), (.aload_n 0, 0, 0, 0), (.getfield 15, 5, 1, 2), (.iload_n 2, 0, 0, 0), (.iaload, 0, 0, 0)]
theorem k_H_shelveRow_15_12 : bok m_H_shelveRow 15 b_H_shelveRow_15_12 = true := by decide +kernel
theorem d_H_shelveRow_7 : decode m_H_shelveRow.2.1 7 = .ok (.if_icmp .ne (7), 3) := by decide +kernel
theorem d_H_shelveRow_31 : decode m_H_shelveRow.2.1 31 = .ok (.invokevirtual 38, 3) := by decide +kernel
theorem d_H_shelveRow_34 : decode m_H_shelveRow.2.1 34 = .ok (.ireturn, 1) := by decide +kernel
theorem d_H_shelveRow_11 : decode m_H_shelveRow.2.1 11 = .ok (.goto (4), 3) := by decide +kernel
def f_H_shelveRow  (S : hs) (x1 : Int32) (x2 : Int32) : Option (Int32 × hs) := ck (inb x2 4) ((if (gI S 160 (x2).toNatClampNeg) = (-1 : Int32) then bd (f_H_hold  S x1 (0 : Int32) (gI S 160 (x2).toNatClampNeg) (gI S 161 (x2).toNatClampNeg)) fun r6 S7 => some (r6, S7) else bd (f_H_hold  S x1 (2 : Int32) (gI S 160 (x2).toNatClampNeg) (gI S 161 (x2).toNatClampNeg)) fun r3 S4 => some (r3, S4)))
theorem c_H_shelveRow (w : Wd) (d : Nat) (c : cx)   (S : hs) (x1 : Int32) (x2 : Int32)  {z : Int32 × hs} (H : f_H_shelveRow S x1 x2 = some z) : Cl w (d + 2) m_H_shelveRow [.ref 159, .int x1, .int x2] (mk c S) (some (.int z.1)) (mk c z.2) := by
  refine Cl.of (Nat.le_refl _) (Nat.le_refl _) (by decide +kernel) (Nat.le_of_ble_eq_true rfl) ?_
  unfold f_H_shelveRow at H
  generalize hN (mk c S) = n0
  generalize hZ (mk c S) = z0
  show J w (d + 2) m_H_shelveRow (n0, z0, some (.int z.1), mk c z.2) 0 [some (.ref 159), some (.int x1), some (.int x2), none] [] (mk c S)
  obtain ⟨g1, H⟩ := ck_e H
  refine J.run b_H_shelveRow_0_5 k_H_shelveRow_0_5 rfl (And.intro (okO_st (S := S) rfl) (And.intro (okA_st (S := S) (n := 4) rfl g1) (show J w (d + 2) m_H_shelveRow (n0, z0, some (.int z.1), mk c z.2) 7 [some (.ref 159), some (.int x1), some (.int x2), none] [.int (-1 : Int32), .int (gI S 160 (x2).toNatClampNeg)] (mk c S) from ?_)))
  refine J.cne (tgt := 14) d_H_shelveRow_7 rfl (fun q2 => ?_) (fun q2 => ?_)
  · have H := ite_f H q2
    refine J.run b_H_shelveRow_14_13 k_H_shelveRow_14_13 rfl (And.intro (okO_st (S := S) rfl) (And.intro (okA_st (S := S) (n := 4) rfl g1) (And.intro (okO_st (S := S) rfl) (And.intro (okA_st (S := S) (n := 4) rfl g1) (show J w (d + 2) m_H_shelveRow (n0, z0, some (.int z.1), mk c z.2) 31 [some (.ref 159), some (.int x1), some (.int x2), some (.int (2 : Int32))] [.int (gI S 161 (x2).toNatClampNeg), .int (gI S 160 (x2).toNatClampNeg), .int (2 : Int32), .int x1, .ref 159] (mk c S) from ?_)))))
    obtain ⟨r3, S4, h5, H⟩ := bd_e H
    refine J.callV (y := m_H_hold) (av := [.int x1, .int (2 : Int32), .int (gI S 160 (x2).toNatClampNeg), .int (gI S 161 (x2).toNatClampNeg)]) (rest := []) (q := 159) l_H_38 d_H_shelveRow_31 (isC_st rfl rfl) (c_H_hold w (d + 0) c  S x1 (2 : Int32) (gI S 160 (x2).toNatClampNeg) (gI S 161 (x2).toNatClampNeg) h5) rfl (Nat.le_of_ble_eq_true rfl) ⟨Nat.le_refl _, Nat.le_refl _⟩ (show J w (d + 2) m_H_shelveRow (n0, z0, some (.int z.1), mk c z.2) 34 [some (.ref 159), some (.int x1), some (.int x2), some (.int (2 : Int32))] [.int r3] (mk c S4) from ?_)
    obtain rfl := some_e H
    exact J.iret d_H_shelveRow_34 rfl rfl
  · have H := ite_t H q2
    refine J.run b_H_shelveRow_10_1 k_H_shelveRow_10_1 rfl (show J w (d + 2) m_H_shelveRow (n0, z0, some (.int z.1), mk c z.2) 11 [some (.ref 159), some (.int x1), some (.int x2), none] [.int (0 : Int32)] (mk c S) from ?_)
    refine J.goto (tgt := 15) d_H_shelveRow_11 rfl ?_
    refine J.run b_H_shelveRow_15_12 k_H_shelveRow_15_12 rfl (And.intro (okO_st (S := S) rfl) (And.intro (okA_st (S := S) (n := 4) rfl g1) (And.intro (okO_st (S := S) rfl) (And.intro (okA_st (S := S) (n := 4) rfl g1) (show J w (d + 2) m_H_shelveRow (n0, z0, some (.int z.1), mk c z.2) 31 [some (.ref 159), some (.int x1), some (.int x2), some (.int (0 : Int32))] [.int (gI S 161 (x2).toNatClampNeg), .int (gI S 160 (x2).toNatClampNeg), .int (0 : Int32), .int x1, .ref 159] (mk c S) from ?_)))))
    obtain ⟨r6, S7, h8, H⟩ := bd_e H
    refine J.callV (y := m_H_hold) (av := [.int x1, .int (0 : Int32), .int (gI S 160 (x2).toNatClampNeg), .int (gI S 161 (x2).toNatClampNeg)]) (rest := []) (q := 159) l_H_38 d_H_shelveRow_31 (isC_st rfl rfl) (c_H_hold w (d + 0) c  S x1 (0 : Int32) (gI S 160 (x2).toNatClampNeg) (gI S 161 (x2).toNatClampNeg) h8) rfl (Nat.le_of_ble_eq_true rfl) ⟨Nat.le_refl _, Nat.le_refl _⟩ (show J w (d + 2) m_H_shelveRow (n0, z0, some (.int z.1), mk c z.2) 34 [some (.ref 159), some (.int x1), some (.int x2), some (.int (0 : Int32))] [.int r6] (mk c S7) from ?_)
    obtain rfl := some_e H
    exact J.iret d_H_shelveRow_34 rfl rfl
def b_X_shelf_0_3 : List Ins := [(.aload_n 0, 0, 0, 0), (.getfield 36, 0, 4, 2), (.iload_n 1, 0, 0, 0)]
theorem k_X_shelf_0_3 : bok m_X_shelf 0 b_X_shelf_0_3 = true := by decide +kernel
def b_X_shelf_13_1 : List Ins := [(.iload_n 2, 0, 0, 0)]
theorem k_X_shelf_13_1 : bok m_X_shelf 13 b_X_shelf_13_1 = true := by decide +kernel
def b_X_shelf_40_4 : List Ins := [(.aload_n 0, 0, 0, 0), (.iload_n 1, 0, 0, 0), (.iload_n 3, 0, 0, 0), (.iload 4, 0, 0, 0)]
theorem k_X_shelf_40_4 : bok m_X_shelf 40 b_X_shelf_40_4 = true := by decide +kernel
def b_X_shelf_49_3 : List Ins := [(.aload_n 0, 0, 0, 0), (.getfield 36, 0, 4, 2), (.iload_n 3, 0, 0, 0)]
theorem k_X_shelf_49_3 : bok m_X_shelf 49 b_X_shelf_49_3 = true := by decide +kernel
def b_X_shelf_72_1 : List Ins := [(.iconst (-1), 0, 0, 0)]
theorem k_X_shelf_72_1 : bok m_X_shelf 72 b_X_shelf_72_1 = true := by decide +kernel
def b_X_shelf_60_4 : List Ins := [(.aload_n 0, 0, 0, 0), (.getfield 36, 0, 4, 2), (.iload_n 1, 0, 0, 0), (.iload_n 3, 0, 0, 0)]
theorem k_X_shelf_60_4 : bok m_X_shelf 60 b_X_shelf_60_4 = true := by decide +kernel
def b_X_shelf_74_6 : List Ins := [(.aload_n 0, 0, 0, 0), (.getfield 36, 0, 4, 2), (.iload_n 1, 0, 0, 0), (.iconst (0), 0, 0, 0), (.iconst (0), 0, 0, 0), (.iconst (0), 0, 0, 0)]
theorem k_X_shelf_74_6 : bok m_X_shelf 74 b_X_shelf_74_6 = true := by decide +kernel
def b_X_shelf_86_1 : List Ins := [(.iconst (-1), 0, 0, 0)]
theorem k_X_shelf_86_1 : bok m_X_shelf 86 b_X_shelf_86_1 = true := by decide +kernel
def b_X_shelf_11_1 : List Ins := [(.iconst (-1), 0, 0, 0)]
theorem k_X_shelf_11_1 : bok m_X_shelf 11 b_X_shelf_11_1 = true := by decide +kernel
theorem d_X_shelf_5 : decode m_X_shelf.2.1 5 = .ok (.invokevirtual 266, 3) := by decide +kernel
theorem d_X_shelf_8 : decode m_X_shelf.2.1 8 = .ok (.ifCond .ne (5), 3) := by decide +kernel
theorem d_X_shelf_14 : decode m_X_shelf.2.1 14 = .ok (.tableswitch (72) (0) (2) #[26, 35, 60], 26) := by decide +kernel
theorem d_X_shelf_45 : decode m_X_shelf.2.1 45 = .ok (.invokevirtual 269, 3) := by decide +kernel
theorem d_X_shelf_48 : decode m_X_shelf.2.1 48 = .ok (.ireturn, 1) := by decide +kernel
theorem d_X_shelf_54 : decode m_X_shelf.2.1 54 = .ok (.invokevirtual 236, 3) := by decide +kernel
theorem d_X_shelf_57 : decode m_X_shelf.2.1 57 = .ok (.ifCond .eq (15), 3) := by decide +kernel
theorem d_X_shelf_73 : decode m_X_shelf.2.1 73 = .ok (.ireturn, 1) := by decide +kernel
theorem d_X_shelf_66 : decode m_X_shelf.2.1 66 = .ok (.invokevirtual 273, 3) := by decide +kernel
theorem d_X_shelf_69 : decode m_X_shelf.2.1 69 = .ok (.goto (4), 3) := by decide +kernel
theorem d_X_shelf_82 : decode m_X_shelf.2.1 82 = .ok (.invokevirtual 276, 3) := by decide +kernel
theorem d_X_shelf_85 : decode m_X_shelf.2.1 85 = .ok (.ireturn, 1) := by decide +kernel
theorem d_X_shelf_87 : decode m_X_shelf.2.1 87 = .ok (.ireturn, 1) := by decide +kernel
theorem d_X_shelf_12 : decode m_X_shelf.2.1 12 = .ok (.ireturn, 1) := by decide +kernel
def f_X_shelf  (S : hs) (x1 : Int32) (x2 : Int32) (x3 : Int32) (x4 : Int32) : Option (Int32 × hs) := bd (f_H_hasShelf  S x1) fun r1 S2 => (if r1 = 0 then some ((-1 : Int32), S2) else (if x2 = (0 : Int32) then bd (f_X_shelveTurn  S2 x1 x3 x4) fun r6 S7 => some (r6, S7) else (if x2 = (1 : Int32) then bd (f_H_hasSheet  S2 x3) fun r10 S11 => (if r10 = 0 then some ((-1 : Int32), S11) else bd (f_H_shelveRow  S11 x1 x3) fun r14 S15 => some (r14, S15)) else (if x2 = (2 : Int32) then bd (f_H_hold  S2 x1 (0 : Int32) (0 : Int32) (0 : Int32)) fun r18 S19 => some (r18, S19) else some ((-1 : Int32), S2)))))
theorem c_X_shelf (w : Wd) (d : Nat) (c : cx)   (S : hs) (x1 : Int32) (x2 : Int32) (x3 : Int32) (x4 : Int32)  {z : Int32 × hs} (H : f_X_shelf S x1 x2 x3 x4 = some z) : Cl w (d + 6) m_X_shelf [.ref 33, .int x1, .int x2, .int x3, .int x4] (mk c S) (some (.int z.1)) (mk c z.2) := by
  refine Cl.of (Nat.le_refl _) (Nat.le_refl _) (by decide +kernel) (Nat.le_of_ble_eq_true rfl) ?_
  unfold f_X_shelf at H
  generalize hN (mk c S) = n0
  generalize hZ (mk c S) = z0
  show J w (d + 6) m_X_shelf (n0, z0, some (.int z.1), mk c z.2) 0 [some (.ref 33), some (.int x1), some (.int x2), some (.int x3), some (.int x4)] [] (mk c S)
  refine J.run b_X_shelf_0_3 k_X_shelf_0_3 rfl (And.intro (okO_st (S := S) rfl) (show J w (d + 6) m_X_shelf (n0, z0, some (.int z.1), mk c z.2) 5 [some (.ref 33), some (.int x1), some (.int x2), some (.int x3), some (.int x4)] [.int x1, .ref 159] (mk c S) from ?_))
  obtain ⟨r1, S2, h3, H⟩ := bd_e H
  refine J.callV (y := m_H_hasShelf) (av := [.int x1]) (rest := []) (q := 159) l_X_266 d_X_shelf_5 (isC_st rfl rfl) (c_H_hasShelf w (d + 4) c  S x1 h3) rfl (Nat.le_of_ble_eq_true rfl) ⟨Nat.le_refl _, Nat.le_refl _⟩ (show J w (d + 6) m_X_shelf (n0, z0, some (.int z.1), mk c z.2) 8 [some (.ref 33), some (.int x1), some (.int x2), some (.int x3), some (.int x4)] [.int r1] (mk c S2) from ?_)
  refine J.zne (tgt := 13) d_X_shelf_8 rfl (fun q4 => ?_) (fun q4 => ?_)
  · have H := ite_f H q4
    refine J.run b_X_shelf_13_1 k_X_shelf_13_1 rfl (show J w (d + 6) m_X_shelf (n0, z0, some (.int z.1), mk c z.2) 14 [some (.ref 33), some (.int x1), some (.int x2), some (.int x3), some (.int x4)] [.int x2] (mk c S2) from ?_)
    by_cases q5 : x2 = (0 : Int32)
    · have H := ite_t H q5
      refine J.tsIn (off := 26) (tgt := 40) d_X_shelf_14 (by rw [q5]; decide) (by rw [q5]; decide) (by rw [q5]; rfl) rfl ?_
      refine J.run b_X_shelf_40_4 k_X_shelf_40_4 rfl (show J w (d + 6) m_X_shelf (n0, z0, some (.int z.1), mk c z.2) 45 [some (.ref 33), some (.int x1), some (.int x2), some (.int x3), some (.int x4)] [.int x4, .int x3, .int x1, .ref 33] (mk c S2) from ?_)
      obtain ⟨r6, S7, h8, H⟩ := bd_e H
      refine J.callV (y := m_X_shelveTurn) (av := [.int x1, .int x3, .int x4]) (rest := []) (q := 33) l_X_269 d_X_shelf_45 (isC_st rfl rfl) (c_X_shelveTurn w (d + 0) c  S2 x1 x3 x4 h8) rfl (Nat.le_of_ble_eq_true rfl) ⟨Nat.le_refl _, Nat.le_refl _⟩ (show J w (d + 6) m_X_shelf (n0, z0, some (.int z.1), mk c z.2) 48 [some (.ref 33), some (.int x1), some (.int x2), some (.int x3), some (.int x4)] [.int r6] (mk c S7) from ?_)
      obtain rfl := some_e H
      exact J.iret d_X_shelf_48 rfl rfl
    · have H := ite_f H q5
      by_cases q9 : x2 = (1 : Int32)
      · have H := ite_t H q9
        refine J.tsIn (off := 35) (tgt := 49) d_X_shelf_14 (by rw [q9]; decide) (by rw [q9]; decide) (by rw [q9]; rfl) rfl ?_
        refine J.run b_X_shelf_49_3 k_X_shelf_49_3 rfl (And.intro (okO_st (S := S2) rfl) (show J w (d + 6) m_X_shelf (n0, z0, some (.int z.1), mk c z.2) 54 [some (.ref 33), some (.int x1), some (.int x2), some (.int x3), some (.int x4)] [.int x3, .ref 159] (mk c S2) from ?_))
        obtain ⟨r10, S11, h12, H⟩ := bd_e H
        refine J.callV (y := m_H_hasSheet) (av := [.int x3]) (rest := []) (q := 159) l_X_236 d_X_shelf_54 (isC_st rfl rfl) (c_H_hasSheet w (d + 4) c  S2 x3 h12) rfl (Nat.le_of_ble_eq_true rfl) ⟨Nat.le_refl _, Nat.le_refl _⟩ (show J w (d + 6) m_X_shelf (n0, z0, some (.int z.1), mk c z.2) 57 [some (.ref 33), some (.int x1), some (.int x2), some (.int x3), some (.int x4)] [.int r10] (mk c S11) from ?_)
        refine J.zeq (tgt := 72) d_X_shelf_57 rfl (fun q13 => ?_) (fun q13 => ?_)
        · have H := ite_t H q13
          refine J.run b_X_shelf_72_1 k_X_shelf_72_1 rfl (show J w (d + 6) m_X_shelf (n0, z0, some (.int z.1), mk c z.2) 73 [some (.ref 33), some (.int x1), some (.int x2), some (.int x3), some (.int x4)] [.int (-1 : Int32)] (mk c S11) from ?_)
          obtain rfl := some_e H
          exact J.iret d_X_shelf_73 rfl rfl
        · have H := ite_f H q13
          refine J.run b_X_shelf_60_4 k_X_shelf_60_4 rfl (And.intro (okO_st (S := S11) rfl) (show J w (d + 6) m_X_shelf (n0, z0, some (.int z.1), mk c z.2) 66 [some (.ref 33), some (.int x1), some (.int x2), some (.int x3), some (.int x4)] [.int x3, .int x1, .ref 159] (mk c S11) from ?_))
          obtain ⟨r14, S15, h16, H⟩ := bd_e H
          refine J.callV (y := m_H_shelveRow) (av := [.int x1, .int x3]) (rest := []) (q := 159) l_X_273 d_X_shelf_66 (isC_st rfl rfl) (c_H_shelveRow w (d + 3) c  S11 x1 x3 h16) rfl (Nat.le_of_ble_eq_true rfl) ⟨Nat.le_refl _, Nat.le_refl _⟩ (show J w (d + 6) m_X_shelf (n0, z0, some (.int z.1), mk c z.2) 69 [some (.ref 33), some (.int x1), some (.int x2), some (.int x3), some (.int x4)] [.int r14] (mk c S15) from ?_)
          refine J.goto (tgt := 73) d_X_shelf_69 rfl ?_
          obtain rfl := some_e H
          exact J.iret d_X_shelf_73 rfl rfl
      · have H := ite_f H q9
        by_cases q17 : x2 = (2 : Int32)
        · have H := ite_t H q17
          refine J.tsIn (off := 60) (tgt := 74) d_X_shelf_14 (by rw [q17]; decide) (by rw [q17]; decide) (by rw [q17]; rfl) rfl ?_
          refine J.run b_X_shelf_74_6 k_X_shelf_74_6 rfl (And.intro (okO_st (S := S2) rfl) (show J w (d + 6) m_X_shelf (n0, z0, some (.int z.1), mk c z.2) 82 [some (.ref 33), some (.int x1), some (.int x2), some (.int x3), some (.int x4)] [.int (0 : Int32), .int (0 : Int32), .int (0 : Int32), .int x1, .ref 159] (mk c S2) from ?_))
          obtain ⟨r18, S19, h20, H⟩ := bd_e H
          refine J.callV (y := m_H_hold) (av := [.int x1, .int (0 : Int32), .int (0 : Int32), .int (0 : Int32)]) (rest := []) (q := 159) l_X_276 d_X_shelf_82 (isC_st rfl rfl) (c_H_hold w (d + 4) c  S2 x1 (0 : Int32) (0 : Int32) (0 : Int32) h20) rfl (Nat.le_of_ble_eq_true rfl) ⟨Nat.le_refl _, Nat.le_refl _⟩ (show J w (d + 6) m_X_shelf (n0, z0, some (.int z.1), mk c z.2) 85 [some (.ref 33), some (.int x1), some (.int x2), some (.int x3), some (.int x4)] [.int r18] (mk c S19) from ?_)
          obtain rfl := some_e H
          exact J.iret d_X_shelf_85 rfl rfl
        · have H := ite_f H q17
          refine J.tsOut (tgt := 86) d_X_shelf_14 (tsO fun k h1 h2 => ?_) rfl ?_
          · rcases (show k = 0 ∨ k = 1 ∨ k = 2 by omega) with rfl | rfl | rfl
            · exact lv_neT q5 rfl
            · exact lv_neT q9 rfl
            · exact lv_neT q17 rfl
          · refine J.run b_X_shelf_86_1 k_X_shelf_86_1 rfl (show J w (d + 6) m_X_shelf (n0, z0, some (.int z.1), mk c z.2) 87 [some (.ref 33), some (.int x1), some (.int x2), some (.int x3), some (.int x4)] [.int (-1 : Int32)] (mk c S2) from ?_)
            obtain rfl := some_e H
            exact J.iret d_X_shelf_87 rfl rfl
  · have H := ite_t H q4
    refine J.run b_X_shelf_11_1 k_X_shelf_11_1 rfl (show J w (d + 6) m_X_shelf (n0, z0, some (.int z.1), mk c z.2) 12 [some (.ref 33), some (.int x1), some (.int x2), some (.int x3), some (.int x4)] [.int (-1 : Int32)] (mk c S2) from ?_)
    obtain rfl := some_e H
    exact J.iret d_X_shelf_12 rfl rfl
def b_X_kindOnShelf_0_6 : List Ins := [(.aload_n 0, 0, 0, 0), (.getfield 36, 0, 4, 2), (.getfield 280, 5, 3, 2), (.iload_n 1, 0, 0, 0), (.iaload, 0, 0, 0), (.iconst (1), 0, 0, 0)]
theorem k_X_kindOnShelf_0_6 : bok m_X_kindOnShelf 0 b_X_kindOnShelf_0_6 = true := by decide +kernel
def b_X_kindOnShelf_41_1 : List Ins := [(.iconst (-1), 0, 0, 0)]
theorem k_X_kindOnShelf_41_1 : bok m_X_kindOnShelf 41 b_X_kindOnShelf_41_1 = true := by decide +kernel
def b_X_kindOnShelf_13_12 : List Ins := [(.aload_n 0, 0, 0, 0), (.getfield 10, 0, 0, 2), (.aload_n 0, 0, 0, 0), (.getfield 36, 0, 4, 2), (.getfield 283, 5, 4, 2), (.iload_n 1, 0, 0, 0), (.iaload, 0, 0, 0), (.aload_n 0, 0, 0, 0), (.getfield 36, 0, 4, 2), (.getfield 286, 5, 5, 2), (.iload_n 1, 0, 0, 0), (.iaload, 0, 0, 0)]
theorem k_X_kindOnShelf_13_12 : bok m_X_kindOnShelf 13 b_X_kindOnShelf_13_12 = true := by decide +kernel
theorem d_X_kindOnShelf_10 : decode m_X_kindOnShelf.2.1 10 = .ok (.if_icmp .ne (31), 3) := by decide +kernel
theorem d_X_kindOnShelf_42 : decode m_X_kindOnShelf.2.1 42 = .ok (.ireturn, 1) := by decide +kernel
theorem d_X_kindOnShelf_35 : decode m_X_kindOnShelf.2.1 35 = .ok (.invokevirtual 128, 3) := by decide +kernel
theorem d_X_kindOnShelf_38 : decode m_X_kindOnShelf.2.1 38 = .ok (.goto (4), 3) := by decide +kernel
def f_X_kindOnShelf  (S : hs) (x1 : Int32) : Option (Int32 × hs) := ck (inb x1 4) ((if (gI S 167 (x1).toNatClampNeg) = (1 : Int32) then bd (f_T_turnNow  S (gI S 168 (x1).toNatClampNeg) (gI S 169 (x1).toNatClampNeg)) fun r3 S4 => some (r3, S4) else some ((-1 : Int32), S)))
theorem c_X_kindOnShelf (w : Wd) (d : Nat) (c : cx)   (S : hs) (x1 : Int32)  {z : Int32 × hs} (H : f_X_kindOnShelf S x1 = some z) : Cl w (d + 5) m_X_kindOnShelf [.ref 33, .int x1] (mk c S) (some (.int z.1)) (mk c z.2) := by
  refine Cl.of (Nat.le_refl _) (Nat.le_refl _) (by decide +kernel) (Nat.le_of_ble_eq_true rfl) ?_
  unfold f_X_kindOnShelf at H
  generalize hN (mk c S) = n0
  generalize hZ (mk c S) = z0
  show J w (d + 5) m_X_kindOnShelf (n0, z0, some (.int z.1), mk c z.2) 0 [some (.ref 33), some (.int x1)] [] (mk c S)
  obtain ⟨g1, H⟩ := ck_e H
  refine J.run b_X_kindOnShelf_0_6 k_X_kindOnShelf_0_6 rfl (And.intro (okO_st (S := S) rfl) (And.intro (okO_st (S := S) rfl) (And.intro (okA_st (S := S) (n := 4) rfl g1) (show J w (d + 5) m_X_kindOnShelf (n0, z0, some (.int z.1), mk c z.2) 10 [some (.ref 33), some (.int x1)] [.int (1 : Int32), .int (gI S 167 (x1).toNatClampNeg)] (mk c S) from ?_))))
  refine J.cne (tgt := 41) d_X_kindOnShelf_10 rfl (fun q2 => ?_) (fun q2 => ?_)
  · have H := ite_f H q2
    refine J.run b_X_kindOnShelf_41_1 k_X_kindOnShelf_41_1 rfl (show J w (d + 5) m_X_kindOnShelf (n0, z0, some (.int z.1), mk c z.2) 42 [some (.ref 33), some (.int x1)] [.int (-1 : Int32)] (mk c S) from ?_)
    obtain rfl := some_e H
    exact J.iret d_X_kindOnShelf_42 rfl rfl
  · have H := ite_t H q2
    refine J.run b_X_kindOnShelf_13_12 k_X_kindOnShelf_13_12 rfl (And.intro (okO_st (S := S) rfl) (And.intro (okO_st (S := S) rfl) (And.intro (okO_st (S := S) rfl) (And.intro (okA_st (S := S) (n := 4) rfl g1) (And.intro (okO_st (S := S) rfl) (And.intro (okO_st (S := S) rfl) (And.intro (okA_st (S := S) (n := 4) rfl g1) (show J w (d + 5) m_X_kindOnShelf (n0, z0, some (.int z.1), mk c z.2) 35 [some (.ref 33), some (.int x1)] [.int (gI S 169 (x1).toNatClampNeg), .int (gI S 168 (x1).toNatClampNeg), .ref 34] (mk c S) from ?_))))))))
    obtain ⟨r3, S4, h5, H⟩ := bd_e H
    refine J.callV (y := m_T_turnNow) (av := [.int (gI S 168 (x1).toNatClampNeg), .int (gI S 169 (x1).toNatClampNeg)]) (rest := []) (q := 34) l_X_128 d_X_kindOnShelf_35 (isC_st rfl rfl) (c_T_turnNow w (d + 0) c  S (gI S 168 (x1).toNatClampNeg) (gI S 169 (x1).toNatClampNeg) h5) rfl (Nat.le_of_ble_eq_true rfl) ⟨Nat.le_refl _, Nat.le_refl _⟩ (show J w (d + 5) m_X_kindOnShelf (n0, z0, some (.int z.1), mk c z.2) 38 [some (.ref 33), some (.int x1)] [.int r3] (mk c S4) from ?_)
    refine J.goto (tgt := 42) d_X_kindOnShelf_38 rfl ?_
    obtain rfl := some_e H
    exact J.iret d_X_kindOnShelf_42 rfl rfl
def b_X_taken_0_1 : List Ins := [(.iload_n 2, 0, 0, 0)]
theorem k_X_taken_0_1 : bok m_X_taken 0 b_X_taken_0_1 = true := by decide +kernel
def b_X_taken_13_5 : List Ins := [(.iconst (0), 0, 0, 0), (.istore_n 3, 0, 0, 0), (.aload_n 0, 0, 0, 0), (.getfield 36, 0, 4, 2), (.iload_n 1, 0, 0, 0)]
theorem k_X_taken_13_5 : bok m_X_taken 13 b_X_taken_13_5 = true := by decide +kernel
def b_X_taken_40_1 : List Ins := [(.iconst (-1), 0, 0, 0)]
theorem k_X_taken_40_1 : bok m_X_taken 40 b_X_taken_40_1 = true := by decide +kernel
def b_X_taken_26_1 : List Ins := [(.iload_n 3, 0, 0, 0)]
theorem k_X_taken_26_1 : bok m_X_taken 26 b_X_taken_26_1 = true := by decide +kernel
def b_X_taken_30_3 : List Ins := [(.iload_n 2, 0, 0, 0), (.bipush (10), 0, 0, 0), (.isub, 0, 0, 0)]
theorem k_X_taken_30_3 : bok m_X_taken 30 b_X_taken_30_3 = true := by decide +kernel
def b_X_taken_42_6 : List Ins := [(.aload_n 0, 0, 0, 0), (.getfield 36, 0, 4, 2), (.getfield 280, 5, 3, 2), (.iload_n 1, 0, 0, 0), (.iaload, 0, 0, 0), (.iconst (2), 0, 0, 0)]
theorem k_X_taken_42_6 : bok m_X_taken 42 b_X_taken_42_6 = true := by decide +kernel
def b_X_taken_86_2 : List Ins := [(.aload_n 0, 0, 0, 0), (.iload_n 1, 0, 0, 0)]
theorem k_X_taken_86_2 : bok m_X_taken 86 b_X_taken_86_2 = true := by decide +kernel
def b_X_taken_91_3 : List Ins := [(.istore 4, 0, 0, 0), (.iload 4, 0, 0, 0), (.iconst (-1), 0, 0, 0)]
theorem k_X_taken_91_3 : bok m_X_taken 91 b_X_taken_91_3 = true := by decide +kernel
def b_X_taken_102_1 : List Ins := [(.iload_n 3, 0, 0, 0)]
theorem k_X_taken_102_1 : bok m_X_taken 102 b_X_taken_102_1 = true := by decide +kernel
def b_X_taken_140_1 : List Ins := [(.bipush (-13), 0, 0, 0)]
theorem k_X_taken_140_1 : bok m_X_taken 140 b_X_taken_140_1 = true := by decide +kernel
def b_X_taken_99_1 : List Ins := [(.bipush (-11), 0, 0, 0)]
theorem k_X_taken_99_1 : bok m_X_taken 99 b_X_taken_99_1 = true := by decide +kernel
def b_X_taken_55_8 : List Ins := [(.iload_n 2, 0, 0, 0), (.bipush (10), 0, 0, 0), (.aload_n 0, 0, 0, 0), (.getfield 36, 0, 4, 2), (.getfield 283, 5, 4, 2), (.iload_n 1, 0, 0, 0), (.iaload, 0, 0, 0), (.iadd, 0, 0, 0)]
theorem k_X_taken_55_8 : bok m_X_taken 55 b_X_taken_55_8 = true := by decide +kernel
def b_X_taken_83_1 : List Ins := [(.bipush (-13), 0, 0, 0)]
theorem k_X_taken_83_1 : bok m_X_taken 83 b_X_taken_83_1 = true := by decide +kernel
def b_X_taken_71_5 : List Ins := [(.aload_n 0, 0, 0, 0), (.getfield 36, 0, 4, 2), (.getfield 286, 5, 5, 2), (.iload_n 1, 0, 0, 0), (.iaload, 0, 0, 0)]
theorem k_X_taken_71_5 : bok m_X_taken 71 b_X_taken_71_5 = true := by decide +kernel
def b_X_taken_4_2 : List Ins := [(.iload_n 2, 0, 0, 0), (.iconst (5), 0, 0, 0)]
theorem k_X_taken_4_2 : bok m_X_taken 4 b_X_taken_4_2 = true := by decide +kernel
def b_X_taken_9_1 : List Ins := [(.iconst (1), 0, 0, 0)]
theorem k_X_taken_9_1 : bok m_X_taken 9 b_X_taken_9_1 = true := by decide +kernel
def b_X_taken_14_4 : List Ins := [(.istore_n 3, 0, 0, 0), (.aload_n 0, 0, 0, 0), (.getfield 36, 0, 4, 2), (.iload_n 1, 0, 0, 0)]
theorem k_X_taken_14_4 : bok m_X_taken 14 b_X_taken_14_4 = true := by decide +kernel
def b_X_taken_106_2 : List Ins := [(.iload 4, 0, 0, 0), (.iload_n 2, 0, 0, 0)]
theorem k_X_taken_106_2 : bok m_X_taken 106 b_X_taken_106_2 = true := by decide +kernel
def b_X_taken_115_13 : List Ins := [(.bipush (40), 0, 0, 0), (.aload_n 0, 0, 0, 0), (.getfield 36, 0, 4, 2), (.getfield 283, 5, 4, 2), (.iload_n 1, 0, 0, 0), (.iaload, 0, 0, 0), (.imul, 0, 0, 0), (.aload_n 0, 0, 0, 0), (.getfield 36, 0, 4, 2), (.getfield 286, 5, 5, 2), (.iload_n 1, 0, 0, 0), (.iaload, 0, 0, 0), (.iadd, 0, 0, 0)]
theorem k_X_taken_115_13 : bok m_X_taken 115 b_X_taken_115_13 = true := by decide +kernel
theorem d_X_taken_1 : decode m_X_taken.2.1 1 = .ok (.ifCond .lt (12), 3) := by decide +kernel
theorem d_X_taken_20 : decode m_X_taken.2.1 20 = .ok (.invokevirtual 266, 3) := by decide +kernel
theorem d_X_taken_23 : decode m_X_taken.2.1 23 = .ok (.ifCond .eq (17), 3) := by decide +kernel
theorem d_X_taken_41 : decode m_X_taken.2.1 41 = .ok (.ireturn, 1) := by decide +kernel
theorem d_X_taken_27 : decode m_X_taken.2.1 27 = .ok (.ifCond .ne (15), 3) := by decide +kernel
theorem d_X_taken_34 : decode m_X_taken.2.1 34 = .ok (.invokestatic 239, 3) := by decide +kernel
theorem d_X_taken_37 : decode m_X_taken.2.1 37 = .ok (.ifCond .ne (5), 3) := by decide +kernel
theorem d_X_taken_52 : decode m_X_taken.2.1 52 = .ok (.if_icmp .ne (34), 3) := by decide +kernel
theorem d_X_taken_88 : decode m_X_taken.2.1 88 = .ok (.invokevirtual 289, 3) := by decide +kernel
theorem d_X_taken_96 : decode m_X_taken.2.1 96 = .ok (.if_icmp .ne (6), 3) := by decide +kernel
theorem d_X_taken_103 : decode m_X_taken.2.1 103 = .ok (.ifCond .eq (37), 3) := by decide +kernel
theorem d_X_taken_142 : decode m_X_taken.2.1 142 = .ok (.ireturn, 1) := by decide +kernel
theorem d_X_taken_101 : decode m_X_taken.2.1 101 = .ok (.ireturn, 1) := by decide +kernel
theorem d_X_taken_68 : decode m_X_taken.2.1 68 = .ok (.if_icmp .ne (15), 3) := by decide +kernel
theorem d_X_taken_85 : decode m_X_taken.2.1 85 = .ok (.ireturn, 1) := by decide +kernel
theorem d_X_taken_80 : decode m_X_taken.2.1 80 = .ok (.goto (5), 3) := by decide +kernel
theorem d_X_taken_6 : decode m_X_taken.2.1 6 = .ok (.if_icmp .gt (7), 3) := by decide +kernel
theorem d_X_taken_10 : decode m_X_taken.2.1 10 = .ok (.goto (4), 3) := by decide +kernel
theorem d_X_taken_109 : decode m_X_taken.2.1 109 = .ok (.invokestatic 292, 3) := by decide +kernel
theorem d_X_taken_112 : decode m_X_taken.2.1 112 = .ok (.ifCond .eq (28), 3) := by decide +kernel
theorem d_X_taken_137 : decode m_X_taken.2.1 137 = .ok (.goto (5), 3) := by decide +kernel
def f_X_taken  (S : hs) (x1 : Int32) (x2 : Int32) : Option (Int32 × hs) := (if x2 < 0 then bd (f_H_hasShelf  S x1) fun r2 S3 => (if r2 = 0 then some ((-1 : Int32), S3) else bd (f_X_isSort  S3 (x2 - (10 : Int32))) fun r6 S7 => (if r6 = 0 then some ((-1 : Int32), S7) else ck (inb x1 4) ((if (gI S7 167 (x1).toNatClampNeg) = (2 : Int32) then (if x2 = ((10 : Int32) + (gI S7 168 (x1).toNatClampNeg)) then some ((gI S7 169 (x1).toNatClampNeg), S7) else some ((-13 : Int32), S7)) else bd (f_X_kindOnShelf  S7 x1) fun r12 S13 => (if r12 = (-1 : Int32) then some ((-11 : Int32), S13) else some ((-13 : Int32), S13)))))) else (if (5 : Int32) < x2 then bd (f_H_hasShelf  S x1) fun r18 S19 => (if r18 = 0 then some ((-1 : Int32), S19) else bd (f_X_isSort  S19 (x2 - (10 : Int32))) fun r22 S23 => (if r22 = 0 then some ((-1 : Int32), S23) else ck (inb x1 4) ((if (gI S23 167 (x1).toNatClampNeg) = (2 : Int32) then (if x2 = ((10 : Int32) + (gI S23 168 (x1).toNatClampNeg)) then some ((gI S23 169 (x1).toNatClampNeg), S23) else some ((-13 : Int32), S23)) else bd (f_X_kindOnShelf  S23 x1) fun r28 S29 => (if r28 = (-1 : Int32) then some ((-11 : Int32), S29) else some ((-13 : Int32), S29)))))) else bd (f_H_hasShelf  S x1) fun r33 S34 => (if r33 = 0 then some ((-1 : Int32), S34) else ck (inb x1 4) ((if (gI S34 167 (x1).toNatClampNeg) = (2 : Int32) then (if x2 = ((10 : Int32) + (gI S34 168 (x1).toNatClampNeg)) then some ((gI S34 169 (x1).toNatClampNeg), S34) else some ((-13 : Int32), S34)) else bd (f_X_kindOnShelf  S34 x1) fun r39 S40 => (if r39 = (-1 : Int32) then some ((-11 : Int32), S40) else bd (f_X_isUnder  S40 r39 x2) fun r43 S44 => (if r43 = 0 then some ((-13 : Int32), S44) else some ((((40 : Int32) * (gI S44 168 (x1).toNatClampNeg)) + (gI S44 169 (x1).toNatClampNeg)), S44))))))))
theorem c_X_taken (w : Wd) (d : Nat) (c : cx)   (S : hs) (x1 : Int32) (x2 : Int32)  {z : Int32 × hs} (H : f_X_taken S x1 x2 = some z) : Cl w (d + 6) m_X_taken [.ref 33, .int x1, .int x2] (mk c S) (some (.int z.1)) (mk c z.2) := by
  refine Cl.of (Nat.le_refl _) (Nat.le_refl _) (by decide +kernel) (Nat.le_of_ble_eq_true rfl) ?_
  unfold f_X_taken at H
  generalize hN (mk c S) = n0
  generalize hZ (mk c S) = z0
  show J w (d + 6) m_X_taken (n0, z0, some (.int z.1), mk c z.2) 0 [some (.ref 33), some (.int x1), some (.int x2), none, none] [] (mk c S)
  refine J.run b_X_taken_0_1 k_X_taken_0_1 rfl (show J w (d + 6) m_X_taken (n0, z0, some (.int z.1), mk c z.2) 1 [some (.ref 33), some (.int x1), some (.int x2), none, none] [.int x2] (mk c S) from ?_)
  refine J.zlt (tgt := 13) d_X_taken_1 rfl (fun q1 => ?_) (fun q1 => ?_)
  · have H := ite_t H q1
    refine J.run b_X_taken_13_5 k_X_taken_13_5 rfl (And.intro (okO_st (S := S) rfl) (show J w (d + 6) m_X_taken (n0, z0, some (.int z.1), mk c z.2) 20 [some (.ref 33), some (.int x1), some (.int x2), some (.int (0 : Int32)), none] [.int x1, .ref 159] (mk c S) from ?_))
    obtain ⟨r2, S3, h4, H⟩ := bd_e H
    refine J.callV (y := m_H_hasShelf) (av := [.int x1]) (rest := []) (q := 159) l_X_266 d_X_taken_20 (isC_st rfl rfl) (c_H_hasShelf w (d + 4) c  S x1 h4) rfl (Nat.le_of_ble_eq_true rfl) ⟨Nat.le_refl _, Nat.le_refl _⟩ (show J w (d + 6) m_X_taken (n0, z0, some (.int z.1), mk c z.2) 23 [some (.ref 33), some (.int x1), some (.int x2), some (.int (0 : Int32)), none] [.int r2] (mk c S3) from ?_)
    refine J.zeq (tgt := 40) d_X_taken_23 rfl (fun q5 => ?_) (fun q5 => ?_)
    · have H := ite_t H q5
      refine J.run b_X_taken_40_1 k_X_taken_40_1 rfl (show J w (d + 6) m_X_taken (n0, z0, some (.int z.1), mk c z.2) 41 [some (.ref 33), some (.int x1), some (.int x2), some (.int (0 : Int32)), none] [.int (-1 : Int32)] (mk c S3) from ?_)
      obtain rfl := some_e H
      exact J.iret d_X_taken_41 rfl rfl
    · have H := ite_f H q5
      refine J.run b_X_taken_26_1 k_X_taken_26_1 rfl (show J w (d + 6) m_X_taken (n0, z0, some (.int z.1), mk c z.2) 27 [some (.ref 33), some (.int x1), some (.int x2), some (.int (0 : Int32)), none] [.int (0 : Int32)] (mk c S3) from ?_)
      refine J.zne (tgt := 42) d_X_taken_27 rfl (fun q => absurd (by decide) q) (fun _ => ?_)
      refine J.run b_X_taken_30_3 k_X_taken_30_3 rfl (show J w (d + 6) m_X_taken (n0, z0, some (.int z.1), mk c z.2) 34 [some (.ref 33), some (.int x1), some (.int x2), some (.int (0 : Int32)), none] [.int (x2 - (10 : Int32))] (mk c S3) from ?_)
      obtain ⟨r6, S7, h8, H⟩ := bd_e H
      refine J.callS (y := m_X_isSort) (av := [.int (x2 - (10 : Int32))]) (rest := []) l_X_239 d_X_taken_34 (c_X_isSort w (d + 4) c  S3 (x2 - (10 : Int32)) h8) rfl (Nat.le_of_ble_eq_true rfl) ⟨Nat.le_refl _, Nat.le_refl _⟩ (show J w (d + 6) m_X_taken (n0, z0, some (.int z.1), mk c z.2) 37 [some (.ref 33), some (.int x1), some (.int x2), some (.int (0 : Int32)), none] [.int r6] (mk c S7) from ?_)
      refine J.zne (tgt := 42) d_X_taken_37 rfl (fun q9 => ?_) (fun q9 => ?_)
      · have H := ite_f H q9
        obtain ⟨g10, H⟩ := ck_e H
        refine J.run b_X_taken_42_6 k_X_taken_42_6 rfl (And.intro (okO_st (S := S7) rfl) (And.intro (okO_st (S := S7) rfl) (And.intro (okA_st (S := S7) (n := 4) rfl g10) (show J w (d + 6) m_X_taken (n0, z0, some (.int z.1), mk c z.2) 52 [some (.ref 33), some (.int x1), some (.int x2), some (.int (0 : Int32)), none] [.int (2 : Int32), .int (gI S7 167 (x1).toNatClampNeg)] (mk c S7) from ?_))))
        refine J.cne (tgt := 86) d_X_taken_52 rfl (fun q11 => ?_) (fun q11 => ?_)
        · have H := ite_f H q11
          refine J.run b_X_taken_86_2 k_X_taken_86_2 rfl (show J w (d + 6) m_X_taken (n0, z0, some (.int z.1), mk c z.2) 88 [some (.ref 33), some (.int x1), some (.int x2), some (.int (0 : Int32)), none] [.int x1, .ref 33] (mk c S7) from ?_)
          obtain ⟨r12, S13, h14, H⟩ := bd_e H
          refine J.callV (y := m_X_kindOnShelf) (av := [.int x1]) (rest := []) (q := 33) l_X_289 d_X_taken_88 (isC_st rfl rfl) (c_X_kindOnShelf w (d + 0) c  S7 x1 h14) rfl (Nat.le_of_ble_eq_true rfl) ⟨Nat.le_refl _, Nat.le_refl _⟩ (show J w (d + 6) m_X_taken (n0, z0, some (.int z.1), mk c z.2) 91 [some (.ref 33), some (.int x1), some (.int x2), some (.int (0 : Int32)), none] [.int r12] (mk c S13) from ?_)
          refine J.run b_X_taken_91_3 k_X_taken_91_3 rfl (show J w (d + 6) m_X_taken (n0, z0, some (.int z.1), mk c z.2) 96 [some (.ref 33), some (.int x1), some (.int x2), some (.int (0 : Int32)), some (.int r12)] [.int (-1 : Int32), .int r12] (mk c S13) from ?_)
          refine J.cne (tgt := 102) d_X_taken_96 rfl (fun q15 => ?_) (fun q15 => ?_)
          · have H := ite_f H q15
            refine J.run b_X_taken_102_1 k_X_taken_102_1 rfl (show J w (d + 6) m_X_taken (n0, z0, some (.int z.1), mk c z.2) 103 [some (.ref 33), some (.int x1), some (.int x2), some (.int (0 : Int32)), some (.int r12)] [.int (0 : Int32)] (mk c S13) from ?_)
            refine J.zeq (tgt := 140) d_X_taken_103 rfl (fun _ => ?_) (fun q => absurd (by decide) q)
            refine J.run b_X_taken_140_1 k_X_taken_140_1 rfl (show J w (d + 6) m_X_taken (n0, z0, some (.int z.1), mk c z.2) 142 [some (.ref 33), some (.int x1), some (.int x2), some (.int (0 : Int32)), some (.int r12)] [.int (-13 : Int32)] (mk c S13) from ?_)
            obtain rfl := some_e H
            exact J.iret d_X_taken_142 rfl rfl
          · have H := ite_t H q15
            refine J.run b_X_taken_99_1 k_X_taken_99_1 rfl (show J w (d + 6) m_X_taken (n0, z0, some (.int z.1), mk c z.2) 101 [some (.ref 33), some (.int x1), some (.int x2), some (.int (0 : Int32)), some (.int r12)] [.int (-11 : Int32)] (mk c S13) from ?_)
            obtain rfl := some_e H
            exact J.iret d_X_taken_101 rfl rfl
        · have H := ite_t H q11
          refine J.run b_X_taken_55_8 k_X_taken_55_8 rfl (And.intro (okO_st (S := S7) rfl) (And.intro (okO_st (S := S7) rfl) (And.intro (okA_st (S := S7) (n := 4) rfl g10) (show J w (d + 6) m_X_taken (n0, z0, some (.int z.1), mk c z.2) 68 [some (.ref 33), some (.int x1), some (.int x2), some (.int (0 : Int32)), none] [.int ((10 : Int32) + (gI S7 168 (x1).toNatClampNeg)), .int x2] (mk c S7) from ?_))))
          refine J.cne (tgt := 83) d_X_taken_68 rfl (fun q16 => ?_) (fun q16 => ?_)
          · have H := ite_f H q16
            refine J.run b_X_taken_83_1 k_X_taken_83_1 rfl (show J w (d + 6) m_X_taken (n0, z0, some (.int z.1), mk c z.2) 85 [some (.ref 33), some (.int x1), some (.int x2), some (.int (0 : Int32)), none] [.int (-13 : Int32)] (mk c S7) from ?_)
            obtain rfl := some_e H
            exact J.iret d_X_taken_85 rfl rfl
          · have H := ite_t H q16
            refine J.run b_X_taken_71_5 k_X_taken_71_5 rfl (And.intro (okO_st (S := S7) rfl) (And.intro (okO_st (S := S7) rfl) (And.intro (okA_st (S := S7) (n := 4) rfl g10) (show J w (d + 6) m_X_taken (n0, z0, some (.int z.1), mk c z.2) 80 [some (.ref 33), some (.int x1), some (.int x2), some (.int (0 : Int32)), none] [.int (gI S7 169 (x1).toNatClampNeg)] (mk c S7) from ?_))))
            refine J.goto (tgt := 85) d_X_taken_80 rfl ?_
            obtain rfl := some_e H
            exact J.iret d_X_taken_85 rfl rfl
      · have H := ite_t H q9
        refine J.run b_X_taken_40_1 k_X_taken_40_1 rfl (show J w (d + 6) m_X_taken (n0, z0, some (.int z.1), mk c z.2) 41 [some (.ref 33), some (.int x1), some (.int x2), some (.int (0 : Int32)), none] [.int (-1 : Int32)] (mk c S7) from ?_)
        obtain rfl := some_e H
        exact J.iret d_X_taken_41 rfl rfl
  · have H := ite_f H q1
    refine J.run b_X_taken_4_2 k_X_taken_4_2 rfl (show J w (d + 6) m_X_taken (n0, z0, some (.int z.1), mk c z.2) 6 [some (.ref 33), some (.int x1), some (.int x2), none, none] [.int (5 : Int32), .int x2] (mk c S) from ?_)
    refine J.cgt (tgt := 13) d_X_taken_6 rfl (fun q17 => ?_) (fun q17 => ?_)
    · have H := ite_t H q17
      refine J.run b_X_taken_13_5 k_X_taken_13_5 rfl (And.intro (okO_st (S := S) rfl) (show J w (d + 6) m_X_taken (n0, z0, some (.int z.1), mk c z.2) 20 [some (.ref 33), some (.int x1), some (.int x2), some (.int (0 : Int32)), none] [.int x1, .ref 159] (mk c S) from ?_))
      obtain ⟨r18, S19, h20, H⟩ := bd_e H
      refine J.callV (y := m_H_hasShelf) (av := [.int x1]) (rest := []) (q := 159) l_X_266 d_X_taken_20 (isC_st rfl rfl) (c_H_hasShelf w (d + 4) c  S x1 h20) rfl (Nat.le_of_ble_eq_true rfl) ⟨Nat.le_refl _, Nat.le_refl _⟩ (show J w (d + 6) m_X_taken (n0, z0, some (.int z.1), mk c z.2) 23 [some (.ref 33), some (.int x1), some (.int x2), some (.int (0 : Int32)), none] [.int r18] (mk c S19) from ?_)
      refine J.zeq (tgt := 40) d_X_taken_23 rfl (fun q21 => ?_) (fun q21 => ?_)
      · have H := ite_t H q21
        refine J.run b_X_taken_40_1 k_X_taken_40_1 rfl (show J w (d + 6) m_X_taken (n0, z0, some (.int z.1), mk c z.2) 41 [some (.ref 33), some (.int x1), some (.int x2), some (.int (0 : Int32)), none] [.int (-1 : Int32)] (mk c S19) from ?_)
        obtain rfl := some_e H
        exact J.iret d_X_taken_41 rfl rfl
      · have H := ite_f H q21
        refine J.run b_X_taken_26_1 k_X_taken_26_1 rfl (show J w (d + 6) m_X_taken (n0, z0, some (.int z.1), mk c z.2) 27 [some (.ref 33), some (.int x1), some (.int x2), some (.int (0 : Int32)), none] [.int (0 : Int32)] (mk c S19) from ?_)
        refine J.zne (tgt := 42) d_X_taken_27 rfl (fun q => absurd (by decide) q) (fun _ => ?_)
        refine J.run b_X_taken_30_3 k_X_taken_30_3 rfl (show J w (d + 6) m_X_taken (n0, z0, some (.int z.1), mk c z.2) 34 [some (.ref 33), some (.int x1), some (.int x2), some (.int (0 : Int32)), none] [.int (x2 - (10 : Int32))] (mk c S19) from ?_)
        obtain ⟨r22, S23, h24, H⟩ := bd_e H
        refine J.callS (y := m_X_isSort) (av := [.int (x2 - (10 : Int32))]) (rest := []) l_X_239 d_X_taken_34 (c_X_isSort w (d + 4) c  S19 (x2 - (10 : Int32)) h24) rfl (Nat.le_of_ble_eq_true rfl) ⟨Nat.le_refl _, Nat.le_refl _⟩ (show J w (d + 6) m_X_taken (n0, z0, some (.int z.1), mk c z.2) 37 [some (.ref 33), some (.int x1), some (.int x2), some (.int (0 : Int32)), none] [.int r22] (mk c S23) from ?_)
        refine J.zne (tgt := 42) d_X_taken_37 rfl (fun q25 => ?_) (fun q25 => ?_)
        · have H := ite_f H q25
          obtain ⟨g26, H⟩ := ck_e H
          refine J.run b_X_taken_42_6 k_X_taken_42_6 rfl (And.intro (okO_st (S := S23) rfl) (And.intro (okO_st (S := S23) rfl) (And.intro (okA_st (S := S23) (n := 4) rfl g26) (show J w (d + 6) m_X_taken (n0, z0, some (.int z.1), mk c z.2) 52 [some (.ref 33), some (.int x1), some (.int x2), some (.int (0 : Int32)), none] [.int (2 : Int32), .int (gI S23 167 (x1).toNatClampNeg)] (mk c S23) from ?_))))
          refine J.cne (tgt := 86) d_X_taken_52 rfl (fun q27 => ?_) (fun q27 => ?_)
          · have H := ite_f H q27
            refine J.run b_X_taken_86_2 k_X_taken_86_2 rfl (show J w (d + 6) m_X_taken (n0, z0, some (.int z.1), mk c z.2) 88 [some (.ref 33), some (.int x1), some (.int x2), some (.int (0 : Int32)), none] [.int x1, .ref 33] (mk c S23) from ?_)
            obtain ⟨r28, S29, h30, H⟩ := bd_e H
            refine J.callV (y := m_X_kindOnShelf) (av := [.int x1]) (rest := []) (q := 33) l_X_289 d_X_taken_88 (isC_st rfl rfl) (c_X_kindOnShelf w (d + 0) c  S23 x1 h30) rfl (Nat.le_of_ble_eq_true rfl) ⟨Nat.le_refl _, Nat.le_refl _⟩ (show J w (d + 6) m_X_taken (n0, z0, some (.int z.1), mk c z.2) 91 [some (.ref 33), some (.int x1), some (.int x2), some (.int (0 : Int32)), none] [.int r28] (mk c S29) from ?_)
            refine J.run b_X_taken_91_3 k_X_taken_91_3 rfl (show J w (d + 6) m_X_taken (n0, z0, some (.int z.1), mk c z.2) 96 [some (.ref 33), some (.int x1), some (.int x2), some (.int (0 : Int32)), some (.int r28)] [.int (-1 : Int32), .int r28] (mk c S29) from ?_)
            refine J.cne (tgt := 102) d_X_taken_96 rfl (fun q31 => ?_) (fun q31 => ?_)
            · have H := ite_f H q31
              refine J.run b_X_taken_102_1 k_X_taken_102_1 rfl (show J w (d + 6) m_X_taken (n0, z0, some (.int z.1), mk c z.2) 103 [some (.ref 33), some (.int x1), some (.int x2), some (.int (0 : Int32)), some (.int r28)] [.int (0 : Int32)] (mk c S29) from ?_)
              refine J.zeq (tgt := 140) d_X_taken_103 rfl (fun _ => ?_) (fun q => absurd (by decide) q)
              refine J.run b_X_taken_140_1 k_X_taken_140_1 rfl (show J w (d + 6) m_X_taken (n0, z0, some (.int z.1), mk c z.2) 142 [some (.ref 33), some (.int x1), some (.int x2), some (.int (0 : Int32)), some (.int r28)] [.int (-13 : Int32)] (mk c S29) from ?_)
              obtain rfl := some_e H
              exact J.iret d_X_taken_142 rfl rfl
            · have H := ite_t H q31
              refine J.run b_X_taken_99_1 k_X_taken_99_1 rfl (show J w (d + 6) m_X_taken (n0, z0, some (.int z.1), mk c z.2) 101 [some (.ref 33), some (.int x1), some (.int x2), some (.int (0 : Int32)), some (.int r28)] [.int (-11 : Int32)] (mk c S29) from ?_)
              obtain rfl := some_e H
              exact J.iret d_X_taken_101 rfl rfl
          · have H := ite_t H q27
            refine J.run b_X_taken_55_8 k_X_taken_55_8 rfl (And.intro (okO_st (S := S23) rfl) (And.intro (okO_st (S := S23) rfl) (And.intro (okA_st (S := S23) (n := 4) rfl g26) (show J w (d + 6) m_X_taken (n0, z0, some (.int z.1), mk c z.2) 68 [some (.ref 33), some (.int x1), some (.int x2), some (.int (0 : Int32)), none] [.int ((10 : Int32) + (gI S23 168 (x1).toNatClampNeg)), .int x2] (mk c S23) from ?_))))
            refine J.cne (tgt := 83) d_X_taken_68 rfl (fun q32 => ?_) (fun q32 => ?_)
            · have H := ite_f H q32
              refine J.run b_X_taken_83_1 k_X_taken_83_1 rfl (show J w (d + 6) m_X_taken (n0, z0, some (.int z.1), mk c z.2) 85 [some (.ref 33), some (.int x1), some (.int x2), some (.int (0 : Int32)), none] [.int (-13 : Int32)] (mk c S23) from ?_)
              obtain rfl := some_e H
              exact J.iret d_X_taken_85 rfl rfl
            · have H := ite_t H q32
              refine J.run b_X_taken_71_5 k_X_taken_71_5 rfl (And.intro (okO_st (S := S23) rfl) (And.intro (okO_st (S := S23) rfl) (And.intro (okA_st (S := S23) (n := 4) rfl g26) (show J w (d + 6) m_X_taken (n0, z0, some (.int z.1), mk c z.2) 80 [some (.ref 33), some (.int x1), some (.int x2), some (.int (0 : Int32)), none] [.int (gI S23 169 (x1).toNatClampNeg)] (mk c S23) from ?_))))
              refine J.goto (tgt := 85) d_X_taken_80 rfl ?_
              obtain rfl := some_e H
              exact J.iret d_X_taken_85 rfl rfl
        · have H := ite_t H q25
          refine J.run b_X_taken_40_1 k_X_taken_40_1 rfl (show J w (d + 6) m_X_taken (n0, z0, some (.int z.1), mk c z.2) 41 [some (.ref 33), some (.int x1), some (.int x2), some (.int (0 : Int32)), none] [.int (-1 : Int32)] (mk c S23) from ?_)
          obtain rfl := some_e H
          exact J.iret d_X_taken_41 rfl rfl
    · have H := ite_f H q17
      refine J.run b_X_taken_9_1 k_X_taken_9_1 rfl (show J w (d + 6) m_X_taken (n0, z0, some (.int z.1), mk c z.2) 10 [some (.ref 33), some (.int x1), some (.int x2), none, none] [.int (1 : Int32)] (mk c S) from ?_)
      refine J.goto (tgt := 14) d_X_taken_10 rfl ?_
      refine J.run b_X_taken_14_4 k_X_taken_14_4 rfl (And.intro (okO_st (S := S) rfl) (show J w (d + 6) m_X_taken (n0, z0, some (.int z.1), mk c z.2) 20 [some (.ref 33), some (.int x1), some (.int x2), some (.int (1 : Int32)), none] [.int x1, .ref 159] (mk c S) from ?_))
      obtain ⟨r33, S34, h35, H⟩ := bd_e H
      refine J.callV (y := m_H_hasShelf) (av := [.int x1]) (rest := []) (q := 159) l_X_266 d_X_taken_20 (isC_st rfl rfl) (c_H_hasShelf w (d + 4) c  S x1 h35) rfl (Nat.le_of_ble_eq_true rfl) ⟨Nat.le_refl _, Nat.le_refl _⟩ (show J w (d + 6) m_X_taken (n0, z0, some (.int z.1), mk c z.2) 23 [some (.ref 33), some (.int x1), some (.int x2), some (.int (1 : Int32)), none] [.int r33] (mk c S34) from ?_)
      refine J.zeq (tgt := 40) d_X_taken_23 rfl (fun q36 => ?_) (fun q36 => ?_)
      · have H := ite_t H q36
        refine J.run b_X_taken_40_1 k_X_taken_40_1 rfl (show J w (d + 6) m_X_taken (n0, z0, some (.int z.1), mk c z.2) 41 [some (.ref 33), some (.int x1), some (.int x2), some (.int (1 : Int32)), none] [.int (-1 : Int32)] (mk c S34) from ?_)
        obtain rfl := some_e H
        exact J.iret d_X_taken_41 rfl rfl
      · have H := ite_f H q36
        refine J.run b_X_taken_26_1 k_X_taken_26_1 rfl (show J w (d + 6) m_X_taken (n0, z0, some (.int z.1), mk c z.2) 27 [some (.ref 33), some (.int x1), some (.int x2), some (.int (1 : Int32)), none] [.int (1 : Int32)] (mk c S34) from ?_)
        refine J.zne (tgt := 42) d_X_taken_27 rfl (fun _ => ?_) (fun q => absurd q (by decide))
        obtain ⟨g37, H⟩ := ck_e H
        refine J.run b_X_taken_42_6 k_X_taken_42_6 rfl (And.intro (okO_st (S := S34) rfl) (And.intro (okO_st (S := S34) rfl) (And.intro (okA_st (S := S34) (n := 4) rfl g37) (show J w (d + 6) m_X_taken (n0, z0, some (.int z.1), mk c z.2) 52 [some (.ref 33), some (.int x1), some (.int x2), some (.int (1 : Int32)), none] [.int (2 : Int32), .int (gI S34 167 (x1).toNatClampNeg)] (mk c S34) from ?_))))
        refine J.cne (tgt := 86) d_X_taken_52 rfl (fun q38 => ?_) (fun q38 => ?_)
        · have H := ite_f H q38
          refine J.run b_X_taken_86_2 k_X_taken_86_2 rfl (show J w (d + 6) m_X_taken (n0, z0, some (.int z.1), mk c z.2) 88 [some (.ref 33), some (.int x1), some (.int x2), some (.int (1 : Int32)), none] [.int x1, .ref 33] (mk c S34) from ?_)
          obtain ⟨r39, S40, h41, H⟩ := bd_e H
          refine J.callV (y := m_X_kindOnShelf) (av := [.int x1]) (rest := []) (q := 33) l_X_289 d_X_taken_88 (isC_st rfl rfl) (c_X_kindOnShelf w (d + 0) c  S34 x1 h41) rfl (Nat.le_of_ble_eq_true rfl) ⟨Nat.le_refl _, Nat.le_refl _⟩ (show J w (d + 6) m_X_taken (n0, z0, some (.int z.1), mk c z.2) 91 [some (.ref 33), some (.int x1), some (.int x2), some (.int (1 : Int32)), none] [.int r39] (mk c S40) from ?_)
          refine J.run b_X_taken_91_3 k_X_taken_91_3 rfl (show J w (d + 6) m_X_taken (n0, z0, some (.int z.1), mk c z.2) 96 [some (.ref 33), some (.int x1), some (.int x2), some (.int (1 : Int32)), some (.int r39)] [.int (-1 : Int32), .int r39] (mk c S40) from ?_)
          refine J.cne (tgt := 102) d_X_taken_96 rfl (fun q42 => ?_) (fun q42 => ?_)
          · have H := ite_f H q42
            refine J.run b_X_taken_102_1 k_X_taken_102_1 rfl (show J w (d + 6) m_X_taken (n0, z0, some (.int z.1), mk c z.2) 103 [some (.ref 33), some (.int x1), some (.int x2), some (.int (1 : Int32)), some (.int r39)] [.int (1 : Int32)] (mk c S40) from ?_)
            refine J.zeq (tgt := 140) d_X_taken_103 rfl (fun q => absurd q (by decide)) (fun _ => ?_)
            refine J.run b_X_taken_106_2 k_X_taken_106_2 rfl (show J w (d + 6) m_X_taken (n0, z0, some (.int z.1), mk c z.2) 109 [some (.ref 33), some (.int x1), some (.int x2), some (.int (1 : Int32)), some (.int r39)] [.int x2, .int r39] (mk c S40) from ?_)
            obtain ⟨r43, S44, h45, H⟩ := bd_e H
            refine J.callS (y := m_X_isUnder) (av := [.int r39, .int x2]) (rest := []) l_X_292 d_X_taken_109 (c_X_isUnder w (d + 4) c  S40 r39 x2 h45) rfl (Nat.le_of_ble_eq_true rfl) ⟨Nat.le_refl _, Nat.le_refl _⟩ (show J w (d + 6) m_X_taken (n0, z0, some (.int z.1), mk c z.2) 112 [some (.ref 33), some (.int x1), some (.int x2), some (.int (1 : Int32)), some (.int r39)] [.int r43] (mk c S44) from ?_)
            refine J.zeq (tgt := 140) d_X_taken_112 rfl (fun q46 => ?_) (fun q46 => ?_)
            · have H := ite_t H q46
              refine J.run b_X_taken_140_1 k_X_taken_140_1 rfl (show J w (d + 6) m_X_taken (n0, z0, some (.int z.1), mk c z.2) 142 [some (.ref 33), some (.int x1), some (.int x2), some (.int (1 : Int32)), some (.int r39)] [.int (-13 : Int32)] (mk c S44) from ?_)
              obtain rfl := some_e H
              exact J.iret d_X_taken_142 rfl rfl
            · have H := ite_f H q46
              refine J.run b_X_taken_115_13 k_X_taken_115_13 rfl (And.intro (okO_st (S := S44) rfl) (And.intro (okO_st (S := S44) rfl) (And.intro (okA_st (S := S44) (n := 4) rfl g37) (And.intro (okO_st (S := S44) rfl) (And.intro (okO_st (S := S44) rfl) (And.intro (okA_st (S := S44) (n := 4) rfl g37) (show J w (d + 6) m_X_taken (n0, z0, some (.int z.1), mk c z.2) 137 [some (.ref 33), some (.int x1), some (.int x2), some (.int (1 : Int32)), some (.int r39)] [.int (((40 : Int32) * (gI S44 168 (x1).toNatClampNeg)) + (gI S44 169 (x1).toNatClampNeg))] (mk c S44) from ?_)))))))
              refine J.goto (tgt := 142) d_X_taken_137 rfl ?_
              obtain rfl := some_e H
              exact J.iret d_X_taken_142 rfl rfl
          · have H := ite_t H q42
            refine J.run b_X_taken_99_1 k_X_taken_99_1 rfl (show J w (d + 6) m_X_taken (n0, z0, some (.int z.1), mk c z.2) 101 [some (.ref 33), some (.int x1), some (.int x2), some (.int (1 : Int32)), some (.int r39)] [.int (-11 : Int32)] (mk c S40) from ?_)
            obtain rfl := some_e H
            exact J.iret d_X_taken_101 rfl rfl
        · have H := ite_t H q38
          refine J.run b_X_taken_55_8 k_X_taken_55_8 rfl (And.intro (okO_st (S := S34) rfl) (And.intro (okO_st (S := S34) rfl) (And.intro (okA_st (S := S34) (n := 4) rfl g37) (show J w (d + 6) m_X_taken (n0, z0, some (.int z.1), mk c z.2) 68 [some (.ref 33), some (.int x1), some (.int x2), some (.int (1 : Int32)), none] [.int ((10 : Int32) + (gI S34 168 (x1).toNatClampNeg)), .int x2] (mk c S34) from ?_))))
          refine J.cne (tgt := 83) d_X_taken_68 rfl (fun q47 => ?_) (fun q47 => ?_)
          · have H := ite_f H q47
            refine J.run b_X_taken_83_1 k_X_taken_83_1 rfl (show J w (d + 6) m_X_taken (n0, z0, some (.int z.1), mk c z.2) 85 [some (.ref 33), some (.int x1), some (.int x2), some (.int (1 : Int32)), none] [.int (-13 : Int32)] (mk c S34) from ?_)
            obtain rfl := some_e H
            exact J.iret d_X_taken_85 rfl rfl
          · have H := ite_t H q47
            refine J.run b_X_taken_71_5 k_X_taken_71_5 rfl (And.intro (okO_st (S := S34) rfl) (And.intro (okO_st (S := S34) rfl) (And.intro (okA_st (S := S34) (n := 4) rfl g37) (show J w (d + 6) m_X_taken (n0, z0, some (.int z.1), mk c z.2) 80 [some (.ref 33), some (.int x1), some (.int x2), some (.int (1 : Int32)), none] [.int (gI S34 169 (x1).toNatClampNeg)] (mk c S34) from ?_))))
            refine J.goto (tgt := 85) d_X_taken_80 rfl ?_
            obtain rfl := some_e H
            exact J.iret d_X_taken_85 rfl rfl
def f_A_copyFrom_121_74  (S : hs)  : Option (Int32 × hs) := some ((0 : Int32), (cpI (cpI (cpI (cpI (cpI (uI (uI S 121 5 (gI S 74 5)) 121 6 (gI (uI S 121 5 (gI S 74 5)) 74 6)) 75 122 8) 76 123 8) 77 124 100) 78 125 100) 79 126 100))
theorem c_A_copyFrom_121_74 (w : Wd) (d : Nat) (c : cx)   (S : hs)   {z : Int32 × hs} (H : f_A_copyFrom_121_74 S = some z) : Cl w (d + 2) m_A_copyFrom [.ref 121, .ref 74] (mk c S) (none) (mk c z.2) := by
  refine Cl.of (Nat.le_refl _) (Nat.le_refl _) (by decide +kernel) (Nat.le_of_ble_eq_true rfl) ?_
  unfold f_A_copyFrom_121_74 at H
  generalize hN (mk c S) = n0
  generalize hZ (mk c S) = z0
  show J w (d + 2) m_A_copyFrom (n0, z0, none, mk c z.2) 0 [some (.ref 121), some (.ref 74)] [] (mk c S)
  refine J.run b_A_copyFrom_0_15 k_A_copyFrom_0_15 rfl (And.intro (okO_st (S := S) rfl) (And.intro (okO_st (S := S) rfl) (And.intro (okO_st (S := (uI S 121 5 (gI S 74 5))) rfl) (And.intro (okO_st (S := (uI S 121 5 (gI S 74 5))) rfl) (And.intro (okO_st (S := (uI (uI S 121 5 (gI S 74 5)) 121 6 (gI (uI S 121 5 (gI S 74 5)) 74 6))) rfl) (And.intro (okO_st (S := (uI (uI S 121 5 (gI S 74 5)) 121 6 (gI (uI S 121 5 (gI S 74 5)) 74 6))) rfl) (show J w (d + 2) m_A_copyFrom (n0, z0, none, mk c z.2) 28 [some (.ref 121), some (.ref 74)] [.int (8 : Int32), .int (0 : Int32), .ref 122, .int (0 : Int32), .ref 75] (mk c (uI (uI S 121 5 (gI S 74 5)) 121 6 (gI (uI S 121 5 (gI S 74 5)) 74 6))) from ?_)))))))
  refine J.copy (n := (8 : Int32)) (N := 8) (a := 75) (b := 122) (rest := []) lc_A_51 d_A_copyFrom_28 (own_st (S := (uI (uI S 121 5 (gI S 74 5)) 121 6 (gI (uI S 121 5 (gI S 74 5)) 74 6))) (n := 8) rfl) (own_st (S := (uI (uI S 121 5 (gI S 74 5)) 121 6 (gI (uI S 121 5 (gI S 74 5)) 74 6))) (n := 8) rfl) (by decide) rfl (Nat.le_of_ble_eq_true rfl) (Nat.le_of_ble_eq_true rfl) (Nat.le_of_ble_eq_true rfl) (show J w (d + 2) m_A_copyFrom (n0, z0, none, mk c z.2) 31 [some (.ref 121), some (.ref 74)] [] (mk c (cpI (uI (uI S 121 5 (gI S 74 5)) 121 6 (gI (uI S 121 5 (gI S 74 5)) 74 6)) 75 122 8)) from ?_)
  refine J.run b_A_copyFrom_31_7 k_A_copyFrom_31_7 rfl (And.intro (okO_st (S := (cpI (uI (uI S 121 5 (gI S 74 5)) 121 6 (gI (uI S 121 5 (gI S 74 5)) 74 6)) 75 122 8)) rfl) (And.intro (okO_st (S := (cpI (uI (uI S 121 5 (gI S 74 5)) 121 6 (gI (uI S 121 5 (gI S 74 5)) 74 6)) 75 122 8)) rfl) (show J w (d + 2) m_A_copyFrom (n0, z0, none, mk c z.2) 43 [some (.ref 121), some (.ref 74)] [.int (8 : Int32), .int (0 : Int32), .ref 123, .int (0 : Int32), .ref 76] (mk c (cpI (uI (uI S 121 5 (gI S 74 5)) 121 6 (gI (uI S 121 5 (gI S 74 5)) 74 6)) 75 122 8)) from ?_)))
  refine J.copy (n := (8 : Int32)) (N := 8) (a := 76) (b := 123) (rest := []) lc_A_51 d_A_copyFrom_43 (own_st (S := (cpI (uI (uI S 121 5 (gI S 74 5)) 121 6 (gI (uI S 121 5 (gI S 74 5)) 74 6)) 75 122 8)) (n := 8) rfl) (own_st (S := (cpI (uI (uI S 121 5 (gI S 74 5)) 121 6 (gI (uI S 121 5 (gI S 74 5)) 74 6)) 75 122 8)) (n := 8) rfl) (by decide) rfl (Nat.le_of_ble_eq_true rfl) (Nat.le_of_ble_eq_true rfl) (Nat.le_of_ble_eq_true rfl) (show J w (d + 2) m_A_copyFrom (n0, z0, none, mk c z.2) 46 [some (.ref 121), some (.ref 74)] [] (mk c (cpI (cpI (uI (uI S 121 5 (gI S 74 5)) 121 6 (gI (uI S 121 5 (gI S 74 5)) 74 6)) 75 122 8) 76 123 8)) from ?_)
  refine J.run b_A_copyFrom_46_7 k_A_copyFrom_46_7 rfl (And.intro (okO_st (S := (cpI (cpI (uI (uI S 121 5 (gI S 74 5)) 121 6 (gI (uI S 121 5 (gI S 74 5)) 74 6)) 75 122 8) 76 123 8)) rfl) (And.intro (okO_st (S := (cpI (cpI (uI (uI S 121 5 (gI S 74 5)) 121 6 (gI (uI S 121 5 (gI S 74 5)) 74 6)) 75 122 8) 76 123 8)) rfl) (show J w (d + 2) m_A_copyFrom (n0, z0, none, mk c z.2) 58 [some (.ref 121), some (.ref 74)] [.int (100 : Int32), .int (0 : Int32), .ref 124, .int (0 : Int32), .ref 77] (mk c (cpI (cpI (uI (uI S 121 5 (gI S 74 5)) 121 6 (gI (uI S 121 5 (gI S 74 5)) 74 6)) 75 122 8) 76 123 8)) from ?_)))
  refine J.copy (n := (100 : Int32)) (N := 100) (a := 77) (b := 124) (rest := []) lc_A_51 d_A_copyFrom_58 (own_st (S := (cpI (cpI (uI (uI S 121 5 (gI S 74 5)) 121 6 (gI (uI S 121 5 (gI S 74 5)) 74 6)) 75 122 8) 76 123 8)) (n := 100) rfl) (own_st (S := (cpI (cpI (uI (uI S 121 5 (gI S 74 5)) 121 6 (gI (uI S 121 5 (gI S 74 5)) 74 6)) 75 122 8) 76 123 8)) (n := 100) rfl) (by decide) rfl (Nat.le_of_ble_eq_true rfl) (Nat.le_of_ble_eq_true rfl) (Nat.le_of_ble_eq_true rfl) (show J w (d + 2) m_A_copyFrom (n0, z0, none, mk c z.2) 61 [some (.ref 121), some (.ref 74)] [] (mk c (cpI (cpI (cpI (uI (uI S 121 5 (gI S 74 5)) 121 6 (gI (uI S 121 5 (gI S 74 5)) 74 6)) 75 122 8) 76 123 8) 77 124 100)) from ?_)
  refine J.run b_A_copyFrom_61_7 k_A_copyFrom_61_7 rfl (And.intro (okO_st (S := (cpI (cpI (cpI (uI (uI S 121 5 (gI S 74 5)) 121 6 (gI (uI S 121 5 (gI S 74 5)) 74 6)) 75 122 8) 76 123 8) 77 124 100)) rfl) (And.intro (okO_st (S := (cpI (cpI (cpI (uI (uI S 121 5 (gI S 74 5)) 121 6 (gI (uI S 121 5 (gI S 74 5)) 74 6)) 75 122 8) 76 123 8) 77 124 100)) rfl) (show J w (d + 2) m_A_copyFrom (n0, z0, none, mk c z.2) 73 [some (.ref 121), some (.ref 74)] [.int (100 : Int32), .int (0 : Int32), .ref 125, .int (0 : Int32), .ref 78] (mk c (cpI (cpI (cpI (uI (uI S 121 5 (gI S 74 5)) 121 6 (gI (uI S 121 5 (gI S 74 5)) 74 6)) 75 122 8) 76 123 8) 77 124 100)) from ?_)))
  refine J.copy (n := (100 : Int32)) (N := 100) (a := 78) (b := 125) (rest := []) lc_A_51 d_A_copyFrom_73 (own_st (S := (cpI (cpI (cpI (uI (uI S 121 5 (gI S 74 5)) 121 6 (gI (uI S 121 5 (gI S 74 5)) 74 6)) 75 122 8) 76 123 8) 77 124 100)) (n := 100) rfl) (own_st (S := (cpI (cpI (cpI (uI (uI S 121 5 (gI S 74 5)) 121 6 (gI (uI S 121 5 (gI S 74 5)) 74 6)) 75 122 8) 76 123 8) 77 124 100)) (n := 100) rfl) (by decide) rfl (Nat.le_of_ble_eq_true rfl) (Nat.le_of_ble_eq_true rfl) (Nat.le_of_ble_eq_true rfl) (show J w (d + 2) m_A_copyFrom (n0, z0, none, mk c z.2) 76 [some (.ref 121), some (.ref 74)] [] (mk c (cpI (cpI (cpI (cpI (uI (uI S 121 5 (gI S 74 5)) 121 6 (gI (uI S 121 5 (gI S 74 5)) 74 6)) 75 122 8) 76 123 8) 77 124 100) 78 125 100)) from ?_)
  refine J.run b_A_copyFrom_76_7 k_A_copyFrom_76_7 rfl (And.intro (okO_st (S := (cpI (cpI (cpI (cpI (uI (uI S 121 5 (gI S 74 5)) 121 6 (gI (uI S 121 5 (gI S 74 5)) 74 6)) 75 122 8) 76 123 8) 77 124 100) 78 125 100)) rfl) (And.intro (okO_st (S := (cpI (cpI (cpI (cpI (uI (uI S 121 5 (gI S 74 5)) 121 6 (gI (uI S 121 5 (gI S 74 5)) 74 6)) 75 122 8) 76 123 8) 77 124 100) 78 125 100)) rfl) (show J w (d + 2) m_A_copyFrom (n0, z0, none, mk c z.2) 88 [some (.ref 121), some (.ref 74)] [.int (100 : Int32), .int (0 : Int32), .ref 126, .int (0 : Int32), .ref 79] (mk c (cpI (cpI (cpI (cpI (uI (uI S 121 5 (gI S 74 5)) 121 6 (gI (uI S 121 5 (gI S 74 5)) 74 6)) 75 122 8) 76 123 8) 77 124 100) 78 125 100)) from ?_)))
  refine J.copy (n := (100 : Int32)) (N := 100) (a := 79) (b := 126) (rest := []) lc_A_51 d_A_copyFrom_88 (own_st (S := (cpI (cpI (cpI (cpI (uI (uI S 121 5 (gI S 74 5)) 121 6 (gI (uI S 121 5 (gI S 74 5)) 74 6)) 75 122 8) 76 123 8) 77 124 100) 78 125 100)) (n := 100) rfl) (own_st (S := (cpI (cpI (cpI (cpI (uI (uI S 121 5 (gI S 74 5)) 121 6 (gI (uI S 121 5 (gI S 74 5)) 74 6)) 75 122 8) 76 123 8) 77 124 100) 78 125 100)) (n := 100) rfl) (by decide) rfl (Nat.le_of_ble_eq_true rfl) (Nat.le_of_ble_eq_true rfl) (Nat.le_of_ble_eq_true rfl) (show J w (d + 2) m_A_copyFrom (n0, z0, none, mk c z.2) 91 [some (.ref 121), some (.ref 74)] [] (mk c (cpI (cpI (cpI (cpI (cpI (uI (uI S 121 5 (gI S 74 5)) 121 6 (gI (uI S 121 5 (gI S 74 5)) 74 6)) 75 122 8) 76 123 8) 77 124 100) 78 125 100) 79 126 100)) from ?_)
  obtain rfl := some_e H
  exact J.vret d_A_copyFrom_91 rfl rfl
def b_T_copyFrom_0_18 : List Ins := [(.aload_n 0, 0, 0, 0), (.aload_n 1, 0, 0, 0), (.getfield 33, 1, 5, 0), (.putfield 33, 1, 5, 0), (.aload_n 0, 0, 0, 0), (.aload_n 1, 0, 0, 0), (.getfield 37, 1, 6, 0), (.putfield 37, 1, 6, 0), (.aload_n 0, 0, 0, 0), (.aload_n 1, 0, 0, 0), (.getfield 40, 1, 7, 0), (.putfield 40, 1, 7, 0), (.aload_n 0, 0, 0, 0), (.aload_n 1, 0, 0, 0), (.getfield 81, 1, 8, 0), (.putfield 81, 1, 8, 0), (.iconst (0), 0, 0, 0), (.istore_n 2, 0, 0, 0)]
theorem k_T_copyFrom_0_18 : bok m_T_copyFrom 0 b_T_copyFrom_0_18 = true := by decide +kernel
def b_T_copyFrom_34_2 : List Ins := [(.iload_n 2, 0, 0, 0), (.bipush (12), 0, 0, 0)]
theorem k_T_copyFrom_34_2 : bok m_T_copyFrom 34 b_T_copyFrom_34_2 = true := by decide +kernel
def b_T_copyFrom_40_11 : List Ins := [(.aload_n 1, 0, 0, 0), (.getfield 11, 1, 0, 2), (.iload_n 2, 0, 0, 0), (.aaload, 0, 0, 0), (.iconst (0), 0, 0, 0), (.aload_n 0, 0, 0, 0), (.getfield 11, 1, 0, 2), (.iload_n 2, 0, 0, 0), (.aaload, 0, 0, 0), (.iconst (0), 0, 0, 0), (.iconst (2), 0, 0, 0)]
theorem k_T_copyFrom_40_11 : bok m_T_copyFrom 40 b_T_copyFrom_40_11 = true := by decide +kernel
def b_T_copyFrom_58_1 : List Ins := [(.iinc 2 (1), 0, 0, 0)]
theorem k_T_copyFrom_58_1 : bok m_T_copyFrom 58 b_T_copyFrom_58_1 = true := by decide +kernel
def b_T_copyFrom_64_2 : List Ins := [(.iconst (0), 0, 0, 0), (.istore_n 2, 0, 0, 0)]
theorem k_T_copyFrom_64_2 : bok m_T_copyFrom 64 b_T_copyFrom_64_2 = true := by decide +kernel
def b_T_copyFrom_66_2 : List Ins := [(.iload_n 2, 0, 0, 0), (.bipush (20), 0, 0, 0)]
theorem k_T_copyFrom_66_2 : bok m_T_copyFrom 66 b_T_copyFrom_66_2 = true := by decide +kernel
def b_T_copyFrom_72_11 : List Ins := [(.aload_n 1, 0, 0, 0), (.getfield 16, 1, 1, 2), (.iload_n 2, 0, 0, 0), (.aaload, 0, 0, 0), (.iconst (0), 0, 0, 0), (.aload_n 0, 0, 0, 0), (.getfield 16, 1, 1, 2), (.iload_n 2, 0, 0, 0), (.aaload, 0, 0, 0), (.iconst (0), 0, 0, 0), (.bipush (8), 0, 0, 0)]
theorem k_T_copyFrom_72_11 : bok m_T_copyFrom 72 b_T_copyFrom_72_11 = true := by decide +kernel
def b_T_copyFrom_91_1 : List Ins := [(.iinc 2 (1), 0, 0, 0)]
theorem k_T_copyFrom_91_1 : bok m_T_copyFrom 91 b_T_copyFrom_91_1 = true := by decide +kernel
def b_T_copyFrom_97_2 : List Ins := [(.iconst (0), 0, 0, 0), (.istore_n 2, 0, 0, 0)]
theorem k_T_copyFrom_97_2 : bok m_T_copyFrom 97 b_T_copyFrom_97_2 = true := by decide +kernel
def b_T_copyFrom_99_2 : List Ins := [(.iload_n 2, 0, 0, 0), (.iconst (4), 0, 0, 0)]
theorem k_T_copyFrom_99_2 : bok m_T_copyFrom 99 b_T_copyFrom_99_2 = true := by decide +kernel
def b_T_copyFrom_104_11 : List Ins := [(.aload_n 1, 0, 0, 0), (.getfield 19, 1, 2, 2), (.iload_n 2, 0, 0, 0), (.aaload, 0, 0, 0), (.iconst (0), 0, 0, 0), (.aload_n 0, 0, 0, 0), (.getfield 19, 1, 2, 2), (.iload_n 2, 0, 0, 0), (.aaload, 0, 0, 0), (.iconst (0), 0, 0, 0), (.iconst (3), 0, 0, 0)]
theorem k_T_copyFrom_104_11 : bok m_T_copyFrom 104 b_T_copyFrom_104_11 = true := by decide +kernel
def b_T_copyFrom_122_1 : List Ins := [(.iinc 2 (1), 0, 0, 0)]
theorem k_T_copyFrom_122_1 : bok m_T_copyFrom 122 b_T_copyFrom_122_1 = true := by decide +kernel
def b_T_copyFrom_128_4 : List Ins := [(.aload_n 0, 0, 0, 0), (.getfield 25, 1, 3, 2), (.aload_n 1, 0, 0, 0), (.getfield 25, 1, 3, 2)]
theorem k_T_copyFrom_128_4 : bok m_T_copyFrom 128 b_T_copyFrom_128_4 = true := by decide +kernel
theorem d_T_copyFrom_37 : decode m_T_copyFrom.2.1 37 = .ok (.if_icmp .ge (27), 3) := by decide +kernel
theorem d_T_copyFrom_55 : decode m_T_copyFrom.2.1 55 = .ok (.invokestatic 88, 3) := by decide +kernel
theorem d_T_copyFrom_61 : decode m_T_copyFrom.2.1 61 = .ok (.goto (-27), 3) := by decide +kernel
theorem d_T_copyFrom_69 : decode m_T_copyFrom.2.1 69 = .ok (.if_icmp .ge (28), 3) := by decide +kernel
theorem d_T_copyFrom_88 : decode m_T_copyFrom.2.1 88 = .ok (.invokestatic 88, 3) := by decide +kernel
theorem d_T_copyFrom_94 : decode m_T_copyFrom.2.1 94 = .ok (.goto (-28), 3) := by decide +kernel
theorem d_T_copyFrom_101 : decode m_T_copyFrom.2.1 101 = .ok (.if_icmp .ge (27), 3) := by decide +kernel
theorem d_T_copyFrom_119 : decode m_T_copyFrom.2.1 119 = .ok (.invokestatic 88, 3) := by decide +kernel
theorem d_T_copyFrom_125 : decode m_T_copyFrom.2.1 125 = .ok (.goto (-26), 3) := by decide +kernel
theorem d_T_copyFrom_136 : decode m_T_copyFrom.2.1 136 = .ok (.invokevirtual 94, 3) := by decide +kernel
theorem d_T_copyFrom_139 : decode m_T_copyFrom.2.1 139 = .ok (.return_, 1) := by decide +kernel
def lp_T_copyFrom_81_34_34   (K0 : hs → Int32 → Option (Int32 × hs)) : Nat → hs → Int32 → Option (Int32 × hs)
  | 0, _, _ => none
  | n + 1, S, x2 => (if (12 : Int32) ≤ x2 then K0 S x2 else ck (inb x2 12) (lp_T_copyFrom_81_34_34 K0 n (cpI S (36 + (x2).toNatClampNeg) (83 + (x2).toNatClampNeg) 2) (x2 + (1 : Int32))))
def lp_T_copyFrom_81_34_66   (K0 : hs → Int32 → Option (Int32 × hs)) : Nat → hs → Int32 → Option (Int32 × hs)
  | 0, _, _ => none
  | n + 1, S, x2 => (if (20 : Int32) ≤ x2 then K0 S x2 else ck (inb x2 20) (lp_T_copyFrom_81_34_66 K0 n (cpI S (49 + (x2).toNatClampNeg) (96 + (x2).toNatClampNeg) 8) (x2 + (1 : Int32))))
def lp_T_copyFrom_81_34_99   (K0 : hs → Int32 → Option (Int32 × hs)) : Nat → hs → Int32 → Option (Int32 × hs)
  | 0, _, _ => none
  | n + 1, S, x2 => (if (4 : Int32) ≤ x2 then K0 S x2 else ck (inb x2 4) (lp_T_copyFrom_81_34_99 K0 n (cpI S (70 + (x2).toNatClampNeg) (117 + (x2).toNatClampNeg) 3) (x2 + (1 : Int32))))
def f_T_copyFrom_81_34  (S : hs)  : Option (Int32 × hs) := lp_T_copyFrom_81_34_34 (fun (S3 : hs) (y4 : Int32) => lp_T_copyFrom_81_34_66 (fun (S7 : hs) (y8 : Int32) => lp_T_copyFrom_81_34_99 (fun (S11 : hs) (y12 : Int32) => bd (f_A_copyFrom_121_74  S11) fun r13 S14 => some ((0 : Int32), S14)) 1000 S7 (0 : Int32)) 1000 S3 (0 : Int32)) 1000 (uI (uI (uI (uI S 81 5 (gI S 34 5)) 81 6 (gI (uI S 81 5 (gI S 34 5)) 34 6)) 81 7 (gI (uI (uI S 81 5 (gI S 34 5)) 81 6 (gI (uI S 81 5 (gI S 34 5)) 34 6)) 34 7)) 81 8 (gI (uI (uI (uI S 81 5 (gI S 34 5)) 81 6 (gI (uI S 81 5 (gI S 34 5)) 34 6)) 81 7 (gI (uI (uI S 81 5 (gI S 34 5)) 81 6 (gI (uI S 81 5 (gI S 34 5)) 34 6)) 34 7)) 34 8)) (0 : Int32)
theorem lo_T_copyFrom_81_34_34 (w : Wd) (d : Nat) (c : cx) {n0 z0 : Nat} {z : Int32 × hs}  {K0 : hs → Int32 → Option (Int32 × hs)}    (hK0 : ∀ (S : hs) (x2 : Int32), K0 S x2 = some z → J w (d + 3) m_T_copyFrom (n0, z0, none, mk c z.2) 64 [some (.ref 81), some (.ref 34), none] [] (mk c S)) :
    ∀ (n : Nat) (S : hs) (x2 : Int32), lp_T_copyFrom_81_34_34 K0 n S x2 = some z → J w (d + 3) m_T_copyFrom (n0, z0, none, mk c z.2) 34 [some (.ref 81), some (.ref 34), some (.int x2)] [] (mk c S) := by
  intro n
  induction n with
  | zero => intro S x2 H; cases H
  | succ n ih =>
    intro S x2 H
    rw [lp_T_copyFrom_81_34_34] at H
    refine J.run b_T_copyFrom_34_2 k_T_copyFrom_34_2 rfl (show J w (d + 3) m_T_copyFrom (n0, z0, none, mk c z.2) 37 [some (.ref 81), some (.ref 34), some (.int x2)] [.int (12 : Int32), .int x2] (mk c S) from ?_)
    refine J.cge (tgt := 64) d_T_copyFrom_37 rfl (fun q1 => ?_) (fun q1 => ?_)
    · have H := ite_t H q1
      refine J.mask [true, true, false] ?_
      exact hK0 S x2 H
    · have H := ite_f H q1
      obtain ⟨g2, H⟩ := ck_e H
      refine J.run b_T_copyFrom_40_11 k_T_copyFrom_40_11 rfl (And.intro (okO_st (S := S) rfl) (And.intro (okQ_st (S := S) (k := 23) (n := 12) rfl rfl g2) (And.intro (okO_st (S := S) rfl) (And.intro (okQ_st (S := S) (k := 23) (n := 12) rfl rfl g2) (show J w (d + 3) m_T_copyFrom (n0, z0, none, mk c z.2) 55 [some (.ref 81), some (.ref 34), some (.int x2)] [.int (2 : Int32), .int (0 : Int32), .ref (83 + (x2).toNatClampNeg), .int (0 : Int32), .ref (36 + (x2).toNatClampNeg)] (mk c S) from ?_)))))
      refine J.copy (n := (2 : Int32)) (N := 2) (a := (36 + (x2).toNatClampNeg)) (b := (83 + (x2).toNatClampNeg)) (rest := []) lc_T_88 d_T_copyFrom_55 (own_row (S := S) (b := 36) (cnt := 12) (n := 2) rfl (inb_lt g2)) (own_row (S := S) (b := 83) (cnt := 12) (n := 2) rfl (inb_lt g2)) (by decide) rfl (Nat.le_of_ble_eq_true rfl) (Nat.le_of_ble_eq_true rfl) (Nat.le_of_ble_eq_true rfl) (show J w (d + 3) m_T_copyFrom (n0, z0, none, mk c z.2) 58 [some (.ref 81), some (.ref 34), some (.int x2)] [] (mk c (cpI S (36 + (x2).toNatClampNeg) (83 + (x2).toNatClampNeg) 2)) from ?_)
      refine J.run b_T_copyFrom_58_1 k_T_copyFrom_58_1 rfl (show J w (d + 3) m_T_copyFrom (n0, z0, none, mk c z.2) 61 [some (.ref 81), some (.ref 34), some (.int (x2 + (1 : Int32)))] [] (mk c (cpI S (36 + (x2).toNatClampNeg) (83 + (x2).toNatClampNeg) 2)) from ?_)
      refine J.goto (tgt := 34) d_T_copyFrom_61 rfl ?_
      refine J.mask [true, true, true] ?_
      exact ih (cpI S (36 + (x2).toNatClampNeg) (83 + (x2).toNatClampNeg) 2) (x2 + (1 : Int32)) H
theorem lo_T_copyFrom_81_34_66 (w : Wd) (d : Nat) (c : cx) {n0 z0 : Nat} {z : Int32 × hs}  {K0 : hs → Int32 → Option (Int32 × hs)}    (hK0 : ∀ (S : hs) (x2 : Int32), K0 S x2 = some z → J w (d + 3) m_T_copyFrom (n0, z0, none, mk c z.2) 97 [some (.ref 81), some (.ref 34), none] [] (mk c S)) :
    ∀ (n : Nat) (S : hs) (x2 : Int32), lp_T_copyFrom_81_34_66 K0 n S x2 = some z → J w (d + 3) m_T_copyFrom (n0, z0, none, mk c z.2) 66 [some (.ref 81), some (.ref 34), some (.int x2)] [] (mk c S) := by
  intro n
  induction n with
  | zero => intro S x2 H; cases H
  | succ n ih =>
    intro S x2 H
    rw [lp_T_copyFrom_81_34_66] at H
    refine J.run b_T_copyFrom_66_2 k_T_copyFrom_66_2 rfl (show J w (d + 3) m_T_copyFrom (n0, z0, none, mk c z.2) 69 [some (.ref 81), some (.ref 34), some (.int x2)] [.int (20 : Int32), .int x2] (mk c S) from ?_)
    refine J.cge (tgt := 97) d_T_copyFrom_69 rfl (fun q5 => ?_) (fun q5 => ?_)
    · have H := ite_t H q5
      refine J.mask [true, true, false] ?_
      exact hK0 S x2 H
    · have H := ite_f H q5
      obtain ⟨g6, H⟩ := ck_e H
      refine J.run b_T_copyFrom_72_11 k_T_copyFrom_72_11 rfl (And.intro (okO_st (S := S) rfl) (And.intro (okQ_st (S := S) (k := 23) (n := 20) rfl rfl g6) (And.intro (okO_st (S := S) rfl) (And.intro (okQ_st (S := S) (k := 23) (n := 20) rfl rfl g6) (show J w (d + 3) m_T_copyFrom (n0, z0, none, mk c z.2) 88 [some (.ref 81), some (.ref 34), some (.int x2)] [.int (8 : Int32), .int (0 : Int32), .ref (96 + (x2).toNatClampNeg), .int (0 : Int32), .ref (49 + (x2).toNatClampNeg)] (mk c S) from ?_)))))
      refine J.copy (n := (8 : Int32)) (N := 8) (a := (49 + (x2).toNatClampNeg)) (b := (96 + (x2).toNatClampNeg)) (rest := []) lc_T_88 d_T_copyFrom_88 (own_row (S := S) (b := 49) (cnt := 20) (n := 8) rfl (inb_lt g6)) (own_row (S := S) (b := 96) (cnt := 20) (n := 8) rfl (inb_lt g6)) (by decide) rfl (Nat.le_of_ble_eq_true rfl) (Nat.le_of_ble_eq_true rfl) (Nat.le_of_ble_eq_true rfl) (show J w (d + 3) m_T_copyFrom (n0, z0, none, mk c z.2) 91 [some (.ref 81), some (.ref 34), some (.int x2)] [] (mk c (cpI S (49 + (x2).toNatClampNeg) (96 + (x2).toNatClampNeg) 8)) from ?_)
      refine J.run b_T_copyFrom_91_1 k_T_copyFrom_91_1 rfl (show J w (d + 3) m_T_copyFrom (n0, z0, none, mk c z.2) 94 [some (.ref 81), some (.ref 34), some (.int (x2 + (1 : Int32)))] [] (mk c (cpI S (49 + (x2).toNatClampNeg) (96 + (x2).toNatClampNeg) 8)) from ?_)
      refine J.goto (tgt := 66) d_T_copyFrom_94 rfl ?_
      refine J.mask [true, true, true] ?_
      exact ih (cpI S (49 + (x2).toNatClampNeg) (96 + (x2).toNatClampNeg) 8) (x2 + (1 : Int32)) H
theorem lo_T_copyFrom_81_34_99 (w : Wd) (d : Nat) (c : cx) {n0 z0 : Nat} {z : Int32 × hs}  {K0 : hs → Int32 → Option (Int32 × hs)}    (hK0 : ∀ (S : hs) (x2 : Int32), K0 S x2 = some z → J w (d + 3) m_T_copyFrom (n0, z0, none, mk c z.2) 128 [some (.ref 81), some (.ref 34), none] [] (mk c S)) :
    ∀ (n : Nat) (S : hs) (x2 : Int32), lp_T_copyFrom_81_34_99 K0 n S x2 = some z → J w (d + 3) m_T_copyFrom (n0, z0, none, mk c z.2) 99 [some (.ref 81), some (.ref 34), some (.int x2)] [] (mk c S) := by
  intro n
  induction n with
  | zero => intro S x2 H; cases H
  | succ n ih =>
    intro S x2 H
    rw [lp_T_copyFrom_81_34_99] at H
    refine J.run b_T_copyFrom_99_2 k_T_copyFrom_99_2 rfl (show J w (d + 3) m_T_copyFrom (n0, z0, none, mk c z.2) 101 [some (.ref 81), some (.ref 34), some (.int x2)] [.int (4 : Int32), .int x2] (mk c S) from ?_)
    refine J.cge (tgt := 128) d_T_copyFrom_101 rfl (fun q9 => ?_) (fun q9 => ?_)
    · have H := ite_t H q9
      refine J.mask [true, true, false] ?_
      exact hK0 S x2 H
    · have H := ite_f H q9
      obtain ⟨g10, H⟩ := ck_e H
      refine J.run b_T_copyFrom_104_11 k_T_copyFrom_104_11 rfl (And.intro (okO_st (S := S) rfl) (And.intro (okQ_st (S := S) (k := 23) (n := 4) rfl rfl g10) (And.intro (okO_st (S := S) rfl) (And.intro (okQ_st (S := S) (k := 23) (n := 4) rfl rfl g10) (show J w (d + 3) m_T_copyFrom (n0, z0, none, mk c z.2) 119 [some (.ref 81), some (.ref 34), some (.int x2)] [.int (3 : Int32), .int (0 : Int32), .ref (117 + (x2).toNatClampNeg), .int (0 : Int32), .ref (70 + (x2).toNatClampNeg)] (mk c S) from ?_)))))
      refine J.copy (n := (3 : Int32)) (N := 3) (a := (70 + (x2).toNatClampNeg)) (b := (117 + (x2).toNatClampNeg)) (rest := []) lc_T_88 d_T_copyFrom_119 (own_row (S := S) (b := 70) (cnt := 4) (n := 3) rfl (inb_lt g10)) (own_row (S := S) (b := 117) (cnt := 4) (n := 3) rfl (inb_lt g10)) (by decide) rfl (Nat.le_of_ble_eq_true rfl) (Nat.le_of_ble_eq_true rfl) (Nat.le_of_ble_eq_true rfl) (show J w (d + 3) m_T_copyFrom (n0, z0, none, mk c z.2) 122 [some (.ref 81), some (.ref 34), some (.int x2)] [] (mk c (cpI S (70 + (x2).toNatClampNeg) (117 + (x2).toNatClampNeg) 3)) from ?_)
      refine J.run b_T_copyFrom_122_1 k_T_copyFrom_122_1 rfl (show J w (d + 3) m_T_copyFrom (n0, z0, none, mk c z.2) 125 [some (.ref 81), some (.ref 34), some (.int (x2 + (1 : Int32)))] [] (mk c (cpI S (70 + (x2).toNatClampNeg) (117 + (x2).toNatClampNeg) 3)) from ?_)
      refine J.goto (tgt := 99) d_T_copyFrom_125 rfl ?_
      refine J.mask [true, true, true] ?_
      exact ih (cpI S (70 + (x2).toNatClampNeg) (117 + (x2).toNatClampNeg) 3) (x2 + (1 : Int32)) H
theorem c_T_copyFrom_81_34 (w : Wd) (d : Nat) (c : cx)   (S : hs)   {z : Int32 × hs} (H : f_T_copyFrom_81_34 S = some z) : Cl w (d + 3) m_T_copyFrom [.ref 81, .ref 34] (mk c S) (none) (mk c z.2) := by
  refine Cl.of (Nat.le_refl _) (Nat.le_refl _) (by decide +kernel) (Nat.le_of_ble_eq_true rfl) ?_
  unfold f_T_copyFrom_81_34 at H
  generalize hN (mk c S) = n0
  generalize hZ (mk c S) = z0
  show J w (d + 3) m_T_copyFrom (n0, z0, none, mk c z.2) 0 [some (.ref 81), some (.ref 34), none] [] (mk c S)
  refine J.run b_T_copyFrom_0_18 k_T_copyFrom_0_18 rfl (And.intro (okO_st (S := S) rfl) (And.intro (okO_st (S := S) rfl) (And.intro (okO_st (S := (uI S 81 5 (gI S 34 5))) rfl) (And.intro (okO_st (S := (uI S 81 5 (gI S 34 5))) rfl) (And.intro (okO_st (S := (uI (uI S 81 5 (gI S 34 5)) 81 6 (gI (uI S 81 5 (gI S 34 5)) 34 6))) rfl) (And.intro (okO_st (S := (uI (uI S 81 5 (gI S 34 5)) 81 6 (gI (uI S 81 5 (gI S 34 5)) 34 6))) rfl) (And.intro (okO_st (S := (uI (uI (uI S 81 5 (gI S 34 5)) 81 6 (gI (uI S 81 5 (gI S 34 5)) 34 6)) 81 7 (gI (uI (uI S 81 5 (gI S 34 5)) 81 6 (gI (uI S 81 5 (gI S 34 5)) 34 6)) 34 7))) rfl) (And.intro (okO_st (S := (uI (uI (uI S 81 5 (gI S 34 5)) 81 6 (gI (uI S 81 5 (gI S 34 5)) 34 6)) 81 7 (gI (uI (uI S 81 5 (gI S 34 5)) 81 6 (gI (uI S 81 5 (gI S 34 5)) 34 6)) 34 7))) rfl) (show J w (d + 3) m_T_copyFrom (n0, z0, none, mk c z.2) 34 [some (.ref 81), some (.ref 34), some (.int (0 : Int32))] [] (mk c (uI (uI (uI (uI S 81 5 (gI S 34 5)) 81 6 (gI (uI S 81 5 (gI S 34 5)) 34 6)) 81 7 (gI (uI (uI S 81 5 (gI S 34 5)) 81 6 (gI (uI S 81 5 (gI S 34 5)) 34 6)) 34 7)) 81 8 (gI (uI (uI (uI S 81 5 (gI S 34 5)) 81 6 (gI (uI S 81 5 (gI S 34 5)) 34 6)) 81 7 (gI (uI (uI S 81 5 (gI S 34 5)) 81 6 (gI (uI S 81 5 (gI S 34 5)) 34 6)) 34 7)) 34 8))) from ?_)))))))))
  refine J.mask [true, true, true] ?_
  refine lo_T_copyFrom_81_34_34 w d c  ?_ 1000 (uI (uI (uI (uI S 81 5 (gI S 34 5)) 81 6 (gI (uI S 81 5 (gI S 34 5)) 34 6)) 81 7 (gI (uI (uI S 81 5 (gI S 34 5)) 81 6 (gI (uI S 81 5 (gI S 34 5)) 34 6)) 34 7)) 81 8 (gI (uI (uI (uI S 81 5 (gI S 34 5)) 81 6 (gI (uI S 81 5 (gI S 34 5)) 34 6)) 81 7 (gI (uI (uI S 81 5 (gI S 34 5)) 81 6 (gI (uI S 81 5 (gI S 34 5)) 34 6)) 34 7)) 34 8)) (0 : Int32) H
  · intro S3 y4 H
    try dsimp only at H
    refine J.run b_T_copyFrom_64_2 k_T_copyFrom_64_2 rfl (show J w (d + 3) m_T_copyFrom (n0, z0, none, mk c z.2) 66 [some (.ref 81), some (.ref 34), some (.int (0 : Int32))] [] (mk c S3) from ?_)
    refine J.mask [true, true, true] ?_
    refine lo_T_copyFrom_81_34_66 w d c  ?_ 1000 S3 (0 : Int32) H
    · intro S7 y8 H
      try dsimp only at H
      refine J.run b_T_copyFrom_97_2 k_T_copyFrom_97_2 rfl (show J w (d + 3) m_T_copyFrom (n0, z0, none, mk c z.2) 99 [some (.ref 81), some (.ref 34), some (.int (0 : Int32))] [] (mk c S7) from ?_)
      refine J.mask [true, true, true] ?_
      refine lo_T_copyFrom_81_34_99 w d c  ?_ 1000 S7 (0 : Int32) H
      · intro S11 y12 H
        try dsimp only at H
        refine J.run b_T_copyFrom_128_4 k_T_copyFrom_128_4 rfl (And.intro (okO_st (S := S11) rfl) (And.intro (okO_st (S := S11) rfl) (show J w (d + 3) m_T_copyFrom (n0, z0, none, mk c z.2) 136 [some (.ref 81), some (.ref 34), none] [.ref 74, .ref 121] (mk c S11) from ?_)))
        obtain ⟨r13, S14, h15, H⟩ := bd_e H
        refine J.callV (y := m_A_copyFrom) (av := [.ref 74]) (rest := []) (q := 121) l_T_94 d_T_copyFrom_136 (isC_st rfl rfl) (c_A_copyFrom_121_74 w (d + 0) c  S11 h15) rfl (Nat.le_of_ble_eq_true rfl) ⟨Nat.le_refl _, Nat.le_refl _⟩ (show J w (d + 3) m_T_copyFrom (n0, z0, none, mk c z.2) 139 [some (.ref 81), some (.ref 34), none] [] (mk c S14) from ?_)
        obtain rfl := some_e H
        exact J.vret d_T_copyFrom_139 rfl rfl
def b_X_keep_0_4 : List Ins := [(.aload_n 0, 0, 0, 0), (.getfield 16, 0, 1, 2), (.aload_n 0, 0, 0, 0), (.getfield 10, 0, 0, 2)]
theorem k_X_keep_0_4 : bok m_X_keep 0 b_X_keep_0_4 = true := by decide +kernel
def b_X_keep_11_4 : List Ins := [(.aload_n 0, 0, 0, 0), (.iconst (1), 0, 0, 0), (.putfield 49, 0, 7, 3), (.iconst (1), 0, 0, 0)]
theorem k_X_keep_11_4 : bok m_X_keep 11 b_X_keep_11_4 = true := by decide +kernel
theorem d_X_keep_8 : decode m_X_keep.2.1 8 = .ok (.invokevirtual 325, 3) := by decide +kernel
theorem d_X_keep_17 : decode m_X_keep.2.1 17 = .ok (.ireturn, 1) := by decide +kernel
def f_X_keep  (S : hs)  : Option (Int32 × hs) := bd (f_T_copyFrom_81_34  S) fun r1 S2 => some ((1 : Int32), (uI S2 33 7 (1 : Int32)))
theorem c_X_keep (w : Wd) (d : Nat) (c : cx)   (S : hs)   {z : Int32 × hs} (H : f_X_keep S = some z) : Cl w (d + 4) m_X_keep [.ref 33] (mk c S) (some (.int z.1)) (mk c z.2) := by
  refine Cl.of (Nat.le_refl _) (Nat.le_refl _) (by decide +kernel) (Nat.le_of_ble_eq_true rfl) ?_
  unfold f_X_keep at H
  generalize hN (mk c S) = n0
  generalize hZ (mk c S) = z0
  show J w (d + 4) m_X_keep (n0, z0, some (.int z.1), mk c z.2) 0 [some (.ref 33)] [] (mk c S)
  refine J.run b_X_keep_0_4 k_X_keep_0_4 rfl (And.intro (okO_st (S := S) rfl) (And.intro (okO_st (S := S) rfl) (show J w (d + 4) m_X_keep (n0, z0, some (.int z.1), mk c z.2) 8 [some (.ref 33)] [.ref 34, .ref 81] (mk c S) from ?_)))
  obtain ⟨r1, S2, h3, H⟩ := bd_e H
  refine J.callV (y := m_T_copyFrom) (av := [.ref 34]) (rest := []) (q := 81) l_X_325 d_X_keep_8 (isC_st rfl rfl) (c_T_copyFrom_81_34 w (d + 0) c  S h3) rfl (Nat.le_of_ble_eq_true rfl) ⟨Nat.le_refl _, Nat.le_refl _⟩ (show J w (d + 4) m_X_keep (n0, z0, some (.int z.1), mk c z.2) 11 [some (.ref 33)] [] (mk c S2) from ?_)
  refine J.run b_X_keep_11_4 k_X_keep_11_4 rfl (And.intro (okO_st (S := S2) rfl) (And.intro (by decide) (show J w (d + 4) m_X_keep (n0, z0, some (.int z.1), mk c z.2) 17 [some (.ref 33)] [.int (1 : Int32)] (mk c (uI S2 33 7 (1 : Int32))) from ?_)))
  obtain rfl := some_e H
  exact J.iret d_X_keep_17 rfl rfl
def f_A_copyFrom_121  (S : hs)  : Option (Int32 × hs) := some ((0 : Int32), (cpI (cpI (cpI (cpI (cpI (uI (uI S 74 5 (gI S 121 5)) 74 6 (gI (uI S 74 5 (gI S 121 5)) 121 6)) 122 75 8) 123 76 8) 124 77 100) 125 78 100) 126 79 100))
theorem c_A_copyFrom_121 (w : Wd) (d : Nat) (c : cx)   (S : hs)   {z : Int32 × hs} (H : f_A_copyFrom_121 S = some z) : Cl w (d + 2) m_A_copyFrom [.ref 74, .ref 121] (mk c S) (none) (mk c z.2) := by
  refine Cl.of (Nat.le_refl _) (Nat.le_refl _) (by decide +kernel) (Nat.le_of_ble_eq_true rfl) ?_
  unfold f_A_copyFrom_121 at H
  generalize hN (mk c S) = n0
  generalize hZ (mk c S) = z0
  show J w (d + 2) m_A_copyFrom (n0, z0, none, mk c z.2) 0 [some (.ref 74), some (.ref 121)] [] (mk c S)
  refine J.run b_A_copyFrom_0_15 k_A_copyFrom_0_15 rfl (And.intro (okO_st (S := S) rfl) (And.intro (okO_st (S := S) rfl) (And.intro (okO_st (S := (uI S 74 5 (gI S 121 5))) rfl) (And.intro (okO_st (S := (uI S 74 5 (gI S 121 5))) rfl) (And.intro (okO_st (S := (uI (uI S 74 5 (gI S 121 5)) 74 6 (gI (uI S 74 5 (gI S 121 5)) 121 6))) rfl) (And.intro (okO_st (S := (uI (uI S 74 5 (gI S 121 5)) 74 6 (gI (uI S 74 5 (gI S 121 5)) 121 6))) rfl) (show J w (d + 2) m_A_copyFrom (n0, z0, none, mk c z.2) 28 [some (.ref 74), some (.ref 121)] [.int (8 : Int32), .int (0 : Int32), .ref 75, .int (0 : Int32), .ref 122] (mk c (uI (uI S 74 5 (gI S 121 5)) 74 6 (gI (uI S 74 5 (gI S 121 5)) 121 6))) from ?_)))))))
  refine J.copy (n := (8 : Int32)) (N := 8) (a := 122) (b := 75) (rest := []) lc_A_51 d_A_copyFrom_28 (own_st (S := (uI (uI S 74 5 (gI S 121 5)) 74 6 (gI (uI S 74 5 (gI S 121 5)) 121 6))) (n := 8) rfl) (own_st (S := (uI (uI S 74 5 (gI S 121 5)) 74 6 (gI (uI S 74 5 (gI S 121 5)) 121 6))) (n := 8) rfl) (by decide) rfl (Nat.le_of_ble_eq_true rfl) (Nat.le_of_ble_eq_true rfl) (Nat.le_of_ble_eq_true rfl) (show J w (d + 2) m_A_copyFrom (n0, z0, none, mk c z.2) 31 [some (.ref 74), some (.ref 121)] [] (mk c (cpI (uI (uI S 74 5 (gI S 121 5)) 74 6 (gI (uI S 74 5 (gI S 121 5)) 121 6)) 122 75 8)) from ?_)
  refine J.run b_A_copyFrom_31_7 k_A_copyFrom_31_7 rfl (And.intro (okO_st (S := (cpI (uI (uI S 74 5 (gI S 121 5)) 74 6 (gI (uI S 74 5 (gI S 121 5)) 121 6)) 122 75 8)) rfl) (And.intro (okO_st (S := (cpI (uI (uI S 74 5 (gI S 121 5)) 74 6 (gI (uI S 74 5 (gI S 121 5)) 121 6)) 122 75 8)) rfl) (show J w (d + 2) m_A_copyFrom (n0, z0, none, mk c z.2) 43 [some (.ref 74), some (.ref 121)] [.int (8 : Int32), .int (0 : Int32), .ref 76, .int (0 : Int32), .ref 123] (mk c (cpI (uI (uI S 74 5 (gI S 121 5)) 74 6 (gI (uI S 74 5 (gI S 121 5)) 121 6)) 122 75 8)) from ?_)))
  refine J.copy (n := (8 : Int32)) (N := 8) (a := 123) (b := 76) (rest := []) lc_A_51 d_A_copyFrom_43 (own_st (S := (cpI (uI (uI S 74 5 (gI S 121 5)) 74 6 (gI (uI S 74 5 (gI S 121 5)) 121 6)) 122 75 8)) (n := 8) rfl) (own_st (S := (cpI (uI (uI S 74 5 (gI S 121 5)) 74 6 (gI (uI S 74 5 (gI S 121 5)) 121 6)) 122 75 8)) (n := 8) rfl) (by decide) rfl (Nat.le_of_ble_eq_true rfl) (Nat.le_of_ble_eq_true rfl) (Nat.le_of_ble_eq_true rfl) (show J w (d + 2) m_A_copyFrom (n0, z0, none, mk c z.2) 46 [some (.ref 74), some (.ref 121)] [] (mk c (cpI (cpI (uI (uI S 74 5 (gI S 121 5)) 74 6 (gI (uI S 74 5 (gI S 121 5)) 121 6)) 122 75 8) 123 76 8)) from ?_)
  refine J.run b_A_copyFrom_46_7 k_A_copyFrom_46_7 rfl (And.intro (okO_st (S := (cpI (cpI (uI (uI S 74 5 (gI S 121 5)) 74 6 (gI (uI S 74 5 (gI S 121 5)) 121 6)) 122 75 8) 123 76 8)) rfl) (And.intro (okO_st (S := (cpI (cpI (uI (uI S 74 5 (gI S 121 5)) 74 6 (gI (uI S 74 5 (gI S 121 5)) 121 6)) 122 75 8) 123 76 8)) rfl) (show J w (d + 2) m_A_copyFrom (n0, z0, none, mk c z.2) 58 [some (.ref 74), some (.ref 121)] [.int (100 : Int32), .int (0 : Int32), .ref 77, .int (0 : Int32), .ref 124] (mk c (cpI (cpI (uI (uI S 74 5 (gI S 121 5)) 74 6 (gI (uI S 74 5 (gI S 121 5)) 121 6)) 122 75 8) 123 76 8)) from ?_)))
  refine J.copy (n := (100 : Int32)) (N := 100) (a := 124) (b := 77) (rest := []) lc_A_51 d_A_copyFrom_58 (own_st (S := (cpI (cpI (uI (uI S 74 5 (gI S 121 5)) 74 6 (gI (uI S 74 5 (gI S 121 5)) 121 6)) 122 75 8) 123 76 8)) (n := 100) rfl) (own_st (S := (cpI (cpI (uI (uI S 74 5 (gI S 121 5)) 74 6 (gI (uI S 74 5 (gI S 121 5)) 121 6)) 122 75 8) 123 76 8)) (n := 100) rfl) (by decide) rfl (Nat.le_of_ble_eq_true rfl) (Nat.le_of_ble_eq_true rfl) (Nat.le_of_ble_eq_true rfl) (show J w (d + 2) m_A_copyFrom (n0, z0, none, mk c z.2) 61 [some (.ref 74), some (.ref 121)] [] (mk c (cpI (cpI (cpI (uI (uI S 74 5 (gI S 121 5)) 74 6 (gI (uI S 74 5 (gI S 121 5)) 121 6)) 122 75 8) 123 76 8) 124 77 100)) from ?_)
  refine J.run b_A_copyFrom_61_7 k_A_copyFrom_61_7 rfl (And.intro (okO_st (S := (cpI (cpI (cpI (uI (uI S 74 5 (gI S 121 5)) 74 6 (gI (uI S 74 5 (gI S 121 5)) 121 6)) 122 75 8) 123 76 8) 124 77 100)) rfl) (And.intro (okO_st (S := (cpI (cpI (cpI (uI (uI S 74 5 (gI S 121 5)) 74 6 (gI (uI S 74 5 (gI S 121 5)) 121 6)) 122 75 8) 123 76 8) 124 77 100)) rfl) (show J w (d + 2) m_A_copyFrom (n0, z0, none, mk c z.2) 73 [some (.ref 74), some (.ref 121)] [.int (100 : Int32), .int (0 : Int32), .ref 78, .int (0 : Int32), .ref 125] (mk c (cpI (cpI (cpI (uI (uI S 74 5 (gI S 121 5)) 74 6 (gI (uI S 74 5 (gI S 121 5)) 121 6)) 122 75 8) 123 76 8) 124 77 100)) from ?_)))
  refine J.copy (n := (100 : Int32)) (N := 100) (a := 125) (b := 78) (rest := []) lc_A_51 d_A_copyFrom_73 (own_st (S := (cpI (cpI (cpI (uI (uI S 74 5 (gI S 121 5)) 74 6 (gI (uI S 74 5 (gI S 121 5)) 121 6)) 122 75 8) 123 76 8) 124 77 100)) (n := 100) rfl) (own_st (S := (cpI (cpI (cpI (uI (uI S 74 5 (gI S 121 5)) 74 6 (gI (uI S 74 5 (gI S 121 5)) 121 6)) 122 75 8) 123 76 8) 124 77 100)) (n := 100) rfl) (by decide) rfl (Nat.le_of_ble_eq_true rfl) (Nat.le_of_ble_eq_true rfl) (Nat.le_of_ble_eq_true rfl) (show J w (d + 2) m_A_copyFrom (n0, z0, none, mk c z.2) 76 [some (.ref 74), some (.ref 121)] [] (mk c (cpI (cpI (cpI (cpI (uI (uI S 74 5 (gI S 121 5)) 74 6 (gI (uI S 74 5 (gI S 121 5)) 121 6)) 122 75 8) 123 76 8) 124 77 100) 125 78 100)) from ?_)
  refine J.run b_A_copyFrom_76_7 k_A_copyFrom_76_7 rfl (And.intro (okO_st (S := (cpI (cpI (cpI (cpI (uI (uI S 74 5 (gI S 121 5)) 74 6 (gI (uI S 74 5 (gI S 121 5)) 121 6)) 122 75 8) 123 76 8) 124 77 100) 125 78 100)) rfl) (And.intro (okO_st (S := (cpI (cpI (cpI (cpI (uI (uI S 74 5 (gI S 121 5)) 74 6 (gI (uI S 74 5 (gI S 121 5)) 121 6)) 122 75 8) 123 76 8) 124 77 100) 125 78 100)) rfl) (show J w (d + 2) m_A_copyFrom (n0, z0, none, mk c z.2) 88 [some (.ref 74), some (.ref 121)] [.int (100 : Int32), .int (0 : Int32), .ref 79, .int (0 : Int32), .ref 126] (mk c (cpI (cpI (cpI (cpI (uI (uI S 74 5 (gI S 121 5)) 74 6 (gI (uI S 74 5 (gI S 121 5)) 121 6)) 122 75 8) 123 76 8) 124 77 100) 125 78 100)) from ?_)))
  refine J.copy (n := (100 : Int32)) (N := 100) (a := 126) (b := 79) (rest := []) lc_A_51 d_A_copyFrom_88 (own_st (S := (cpI (cpI (cpI (cpI (uI (uI S 74 5 (gI S 121 5)) 74 6 (gI (uI S 74 5 (gI S 121 5)) 121 6)) 122 75 8) 123 76 8) 124 77 100) 125 78 100)) (n := 100) rfl) (own_st (S := (cpI (cpI (cpI (cpI (uI (uI S 74 5 (gI S 121 5)) 74 6 (gI (uI S 74 5 (gI S 121 5)) 121 6)) 122 75 8) 123 76 8) 124 77 100) 125 78 100)) (n := 100) rfl) (by decide) rfl (Nat.le_of_ble_eq_true rfl) (Nat.le_of_ble_eq_true rfl) (Nat.le_of_ble_eq_true rfl) (show J w (d + 2) m_A_copyFrom (n0, z0, none, mk c z.2) 91 [some (.ref 74), some (.ref 121)] [] (mk c (cpI (cpI (cpI (cpI (cpI (uI (uI S 74 5 (gI S 121 5)) 74 6 (gI (uI S 74 5 (gI S 121 5)) 121 6)) 122 75 8) 123 76 8) 124 77 100) 125 78 100) 126 79 100)) from ?_)
  obtain rfl := some_e H
  exact J.vret d_A_copyFrom_91 rfl rfl
def lp_T_copyFrom_81_34   (K0 : hs → Int32 → Option (Int32 × hs)) : Nat → hs → Int32 → Option (Int32 × hs)
  | 0, _, _ => none
  | n + 1, S, x2 => (if (12 : Int32) ≤ x2 then K0 S x2 else ck (inb x2 12) (lp_T_copyFrom_81_34 K0 n (cpI S (83 + (x2).toNatClampNeg) (36 + (x2).toNatClampNeg) 2) (x2 + (1 : Int32))))
def lp_T_copyFrom_81_66   (K0 : hs → Int32 → Option (Int32 × hs)) : Nat → hs → Int32 → Option (Int32 × hs)
  | 0, _, _ => none
  | n + 1, S, x2 => (if (20 : Int32) ≤ x2 then K0 S x2 else ck (inb x2 20) (lp_T_copyFrom_81_66 K0 n (cpI S (96 + (x2).toNatClampNeg) (49 + (x2).toNatClampNeg) 8) (x2 + (1 : Int32))))
def lp_T_copyFrom_81_99   (K0 : hs → Int32 → Option (Int32 × hs)) : Nat → hs → Int32 → Option (Int32 × hs)
  | 0, _, _ => none
  | n + 1, S, x2 => (if (4 : Int32) ≤ x2 then K0 S x2 else ck (inb x2 4) (lp_T_copyFrom_81_99 K0 n (cpI S (117 + (x2).toNatClampNeg) (70 + (x2).toNatClampNeg) 3) (x2 + (1 : Int32))))
def f_T_copyFrom_81  (S : hs)  : Option (Int32 × hs) := lp_T_copyFrom_81_34 (fun (S3 : hs) (y4 : Int32) => lp_T_copyFrom_81_66 (fun (S7 : hs) (y8 : Int32) => lp_T_copyFrom_81_99 (fun (S11 : hs) (y12 : Int32) => bd (f_A_copyFrom_121  S11) fun r13 S14 => some ((0 : Int32), S14)) 1000 S7 (0 : Int32)) 1000 S3 (0 : Int32)) 1000 (uI (uI (uI (uI S 34 5 (gI S 81 5)) 34 6 (gI (uI S 34 5 (gI S 81 5)) 81 6)) 34 7 (gI (uI (uI S 34 5 (gI S 81 5)) 34 6 (gI (uI S 34 5 (gI S 81 5)) 81 6)) 81 7)) 34 8 (gI (uI (uI (uI S 34 5 (gI S 81 5)) 34 6 (gI (uI S 34 5 (gI S 81 5)) 81 6)) 34 7 (gI (uI (uI S 34 5 (gI S 81 5)) 34 6 (gI (uI S 34 5 (gI S 81 5)) 81 6)) 81 7)) 81 8)) (0 : Int32)
theorem lo_T_copyFrom_81_34 (w : Wd) (d : Nat) (c : cx) {n0 z0 : Nat} {z : Int32 × hs}  {K0 : hs → Int32 → Option (Int32 × hs)}    (hK0 : ∀ (S : hs) (x2 : Int32), K0 S x2 = some z → J w (d + 3) m_T_copyFrom (n0, z0, none, mk c z.2) 64 [some (.ref 34), some (.ref 81), none] [] (mk c S)) :
    ∀ (n : Nat) (S : hs) (x2 : Int32), lp_T_copyFrom_81_34 K0 n S x2 = some z → J w (d + 3) m_T_copyFrom (n0, z0, none, mk c z.2) 34 [some (.ref 34), some (.ref 81), some (.int x2)] [] (mk c S) := by
  intro n
  induction n with
  | zero => intro S x2 H; cases H
  | succ n ih =>
    intro S x2 H
    rw [lp_T_copyFrom_81_34] at H
    refine J.run b_T_copyFrom_34_2 k_T_copyFrom_34_2 rfl (show J w (d + 3) m_T_copyFrom (n0, z0, none, mk c z.2) 37 [some (.ref 34), some (.ref 81), some (.int x2)] [.int (12 : Int32), .int x2] (mk c S) from ?_)
    refine J.cge (tgt := 64) d_T_copyFrom_37 rfl (fun q1 => ?_) (fun q1 => ?_)
    · have H := ite_t H q1
      refine J.mask [true, true, false] ?_
      exact hK0 S x2 H
    · have H := ite_f H q1
      obtain ⟨g2, H⟩ := ck_e H
      refine J.run b_T_copyFrom_40_11 k_T_copyFrom_40_11 rfl (And.intro (okO_st (S := S) rfl) (And.intro (okQ_st (S := S) (k := 23) (n := 12) rfl rfl g2) (And.intro (okO_st (S := S) rfl) (And.intro (okQ_st (S := S) (k := 23) (n := 12) rfl rfl g2) (show J w (d + 3) m_T_copyFrom (n0, z0, none, mk c z.2) 55 [some (.ref 34), some (.ref 81), some (.int x2)] [.int (2 : Int32), .int (0 : Int32), .ref (36 + (x2).toNatClampNeg), .int (0 : Int32), .ref (83 + (x2).toNatClampNeg)] (mk c S) from ?_)))))
      refine J.copy (n := (2 : Int32)) (N := 2) (a := (83 + (x2).toNatClampNeg)) (b := (36 + (x2).toNatClampNeg)) (rest := []) lc_T_88 d_T_copyFrom_55 (own_row (S := S) (b := 83) (cnt := 12) (n := 2) rfl (inb_lt g2)) (own_row (S := S) (b := 36) (cnt := 12) (n := 2) rfl (inb_lt g2)) (by decide) rfl (Nat.le_of_ble_eq_true rfl) (Nat.le_of_ble_eq_true rfl) (Nat.le_of_ble_eq_true rfl) (show J w (d + 3) m_T_copyFrom (n0, z0, none, mk c z.2) 58 [some (.ref 34), some (.ref 81), some (.int x2)] [] (mk c (cpI S (83 + (x2).toNatClampNeg) (36 + (x2).toNatClampNeg) 2)) from ?_)
      refine J.run b_T_copyFrom_58_1 k_T_copyFrom_58_1 rfl (show J w (d + 3) m_T_copyFrom (n0, z0, none, mk c z.2) 61 [some (.ref 34), some (.ref 81), some (.int (x2 + (1 : Int32)))] [] (mk c (cpI S (83 + (x2).toNatClampNeg) (36 + (x2).toNatClampNeg) 2)) from ?_)
      refine J.goto (tgt := 34) d_T_copyFrom_61 rfl ?_
      refine J.mask [true, true, true] ?_
      exact ih (cpI S (83 + (x2).toNatClampNeg) (36 + (x2).toNatClampNeg) 2) (x2 + (1 : Int32)) H
theorem lo_T_copyFrom_81_66 (w : Wd) (d : Nat) (c : cx) {n0 z0 : Nat} {z : Int32 × hs}  {K0 : hs → Int32 → Option (Int32 × hs)}    (hK0 : ∀ (S : hs) (x2 : Int32), K0 S x2 = some z → J w (d + 3) m_T_copyFrom (n0, z0, none, mk c z.2) 97 [some (.ref 34), some (.ref 81), none] [] (mk c S)) :
    ∀ (n : Nat) (S : hs) (x2 : Int32), lp_T_copyFrom_81_66 K0 n S x2 = some z → J w (d + 3) m_T_copyFrom (n0, z0, none, mk c z.2) 66 [some (.ref 34), some (.ref 81), some (.int x2)] [] (mk c S) := by
  intro n
  induction n with
  | zero => intro S x2 H; cases H
  | succ n ih =>
    intro S x2 H
    rw [lp_T_copyFrom_81_66] at H
    refine J.run b_T_copyFrom_66_2 k_T_copyFrom_66_2 rfl (show J w (d + 3) m_T_copyFrom (n0, z0, none, mk c z.2) 69 [some (.ref 34), some (.ref 81), some (.int x2)] [.int (20 : Int32), .int x2] (mk c S) from ?_)
    refine J.cge (tgt := 97) d_T_copyFrom_69 rfl (fun q5 => ?_) (fun q5 => ?_)
    · have H := ite_t H q5
      refine J.mask [true, true, false] ?_
      exact hK0 S x2 H
    · have H := ite_f H q5
      obtain ⟨g6, H⟩ := ck_e H
      refine J.run b_T_copyFrom_72_11 k_T_copyFrom_72_11 rfl (And.intro (okO_st (S := S) rfl) (And.intro (okQ_st (S := S) (k := 23) (n := 20) rfl rfl g6) (And.intro (okO_st (S := S) rfl) (And.intro (okQ_st (S := S) (k := 23) (n := 20) rfl rfl g6) (show J w (d + 3) m_T_copyFrom (n0, z0, none, mk c z.2) 88 [some (.ref 34), some (.ref 81), some (.int x2)] [.int (8 : Int32), .int (0 : Int32), .ref (49 + (x2).toNatClampNeg), .int (0 : Int32), .ref (96 + (x2).toNatClampNeg)] (mk c S) from ?_)))))
      refine J.copy (n := (8 : Int32)) (N := 8) (a := (96 + (x2).toNatClampNeg)) (b := (49 + (x2).toNatClampNeg)) (rest := []) lc_T_88 d_T_copyFrom_88 (own_row (S := S) (b := 96) (cnt := 20) (n := 8) rfl (inb_lt g6)) (own_row (S := S) (b := 49) (cnt := 20) (n := 8) rfl (inb_lt g6)) (by decide) rfl (Nat.le_of_ble_eq_true rfl) (Nat.le_of_ble_eq_true rfl) (Nat.le_of_ble_eq_true rfl) (show J w (d + 3) m_T_copyFrom (n0, z0, none, mk c z.2) 91 [some (.ref 34), some (.ref 81), some (.int x2)] [] (mk c (cpI S (96 + (x2).toNatClampNeg) (49 + (x2).toNatClampNeg) 8)) from ?_)
      refine J.run b_T_copyFrom_91_1 k_T_copyFrom_91_1 rfl (show J w (d + 3) m_T_copyFrom (n0, z0, none, mk c z.2) 94 [some (.ref 34), some (.ref 81), some (.int (x2 + (1 : Int32)))] [] (mk c (cpI S (96 + (x2).toNatClampNeg) (49 + (x2).toNatClampNeg) 8)) from ?_)
      refine J.goto (tgt := 66) d_T_copyFrom_94 rfl ?_
      refine J.mask [true, true, true] ?_
      exact ih (cpI S (96 + (x2).toNatClampNeg) (49 + (x2).toNatClampNeg) 8) (x2 + (1 : Int32)) H
theorem lo_T_copyFrom_81_99 (w : Wd) (d : Nat) (c : cx) {n0 z0 : Nat} {z : Int32 × hs}  {K0 : hs → Int32 → Option (Int32 × hs)}    (hK0 : ∀ (S : hs) (x2 : Int32), K0 S x2 = some z → J w (d + 3) m_T_copyFrom (n0, z0, none, mk c z.2) 128 [some (.ref 34), some (.ref 81), none] [] (mk c S)) :
    ∀ (n : Nat) (S : hs) (x2 : Int32), lp_T_copyFrom_81_99 K0 n S x2 = some z → J w (d + 3) m_T_copyFrom (n0, z0, none, mk c z.2) 99 [some (.ref 34), some (.ref 81), some (.int x2)] [] (mk c S) := by
  intro n
  induction n with
  | zero => intro S x2 H; cases H
  | succ n ih =>
    intro S x2 H
    rw [lp_T_copyFrom_81_99] at H
    refine J.run b_T_copyFrom_99_2 k_T_copyFrom_99_2 rfl (show J w (d + 3) m_T_copyFrom (n0, z0, none, mk c z.2) 101 [some (.ref 34), some (.ref 81), some (.int x2)] [.int (4 : Int32), .int x2] (mk c S) from ?_)
    refine J.cge (tgt := 128) d_T_copyFrom_101 rfl (fun q9 => ?_) (fun q9 => ?_)
    · have H := ite_t H q9
      refine J.mask [true, true, false] ?_
      exact hK0 S x2 H
    · have H := ite_f H q9
      obtain ⟨g10, H⟩ := ck_e H
      refine J.run b_T_copyFrom_104_11 k_T_copyFrom_104_11 rfl (And.intro (okO_st (S := S) rfl) (And.intro (okQ_st (S := S) (k := 23) (n := 4) rfl rfl g10) (And.intro (okO_st (S := S) rfl) (And.intro (okQ_st (S := S) (k := 23) (n := 4) rfl rfl g10) (show J w (d + 3) m_T_copyFrom (n0, z0, none, mk c z.2) 119 [some (.ref 34), some (.ref 81), some (.int x2)] [.int (3 : Int32), .int (0 : Int32), .ref (70 + (x2).toNatClampNeg), .int (0 : Int32), .ref (117 + (x2).toNatClampNeg)] (mk c S) from ?_)))))
      refine J.copy (n := (3 : Int32)) (N := 3) (a := (117 + (x2).toNatClampNeg)) (b := (70 + (x2).toNatClampNeg)) (rest := []) lc_T_88 d_T_copyFrom_119 (own_row (S := S) (b := 117) (cnt := 4) (n := 3) rfl (inb_lt g10)) (own_row (S := S) (b := 70) (cnt := 4) (n := 3) rfl (inb_lt g10)) (by decide) rfl (Nat.le_of_ble_eq_true rfl) (Nat.le_of_ble_eq_true rfl) (Nat.le_of_ble_eq_true rfl) (show J w (d + 3) m_T_copyFrom (n0, z0, none, mk c z.2) 122 [some (.ref 34), some (.ref 81), some (.int x2)] [] (mk c (cpI S (117 + (x2).toNatClampNeg) (70 + (x2).toNatClampNeg) 3)) from ?_)
      refine J.run b_T_copyFrom_122_1 k_T_copyFrom_122_1 rfl (show J w (d + 3) m_T_copyFrom (n0, z0, none, mk c z.2) 125 [some (.ref 34), some (.ref 81), some (.int (x2 + (1 : Int32)))] [] (mk c (cpI S (117 + (x2).toNatClampNeg) (70 + (x2).toNatClampNeg) 3)) from ?_)
      refine J.goto (tgt := 99) d_T_copyFrom_125 rfl ?_
      refine J.mask [true, true, true] ?_
      exact ih (cpI S (117 + (x2).toNatClampNeg) (70 + (x2).toNatClampNeg) 3) (x2 + (1 : Int32)) H
theorem c_T_copyFrom_81 (w : Wd) (d : Nat) (c : cx)   (S : hs)   {z : Int32 × hs} (H : f_T_copyFrom_81 S = some z) : Cl w (d + 3) m_T_copyFrom [.ref 34, .ref 81] (mk c S) (none) (mk c z.2) := by
  refine Cl.of (Nat.le_refl _) (Nat.le_refl _) (by decide +kernel) (Nat.le_of_ble_eq_true rfl) ?_
  unfold f_T_copyFrom_81 at H
  generalize hN (mk c S) = n0
  generalize hZ (mk c S) = z0
  show J w (d + 3) m_T_copyFrom (n0, z0, none, mk c z.2) 0 [some (.ref 34), some (.ref 81), none] [] (mk c S)
  refine J.run b_T_copyFrom_0_18 k_T_copyFrom_0_18 rfl (And.intro (okO_st (S := S) rfl) (And.intro (okO_st (S := S) rfl) (And.intro (okO_st (S := (uI S 34 5 (gI S 81 5))) rfl) (And.intro (okO_st (S := (uI S 34 5 (gI S 81 5))) rfl) (And.intro (okO_st (S := (uI (uI S 34 5 (gI S 81 5)) 34 6 (gI (uI S 34 5 (gI S 81 5)) 81 6))) rfl) (And.intro (okO_st (S := (uI (uI S 34 5 (gI S 81 5)) 34 6 (gI (uI S 34 5 (gI S 81 5)) 81 6))) rfl) (And.intro (okO_st (S := (uI (uI (uI S 34 5 (gI S 81 5)) 34 6 (gI (uI S 34 5 (gI S 81 5)) 81 6)) 34 7 (gI (uI (uI S 34 5 (gI S 81 5)) 34 6 (gI (uI S 34 5 (gI S 81 5)) 81 6)) 81 7))) rfl) (And.intro (okO_st (S := (uI (uI (uI S 34 5 (gI S 81 5)) 34 6 (gI (uI S 34 5 (gI S 81 5)) 81 6)) 34 7 (gI (uI (uI S 34 5 (gI S 81 5)) 34 6 (gI (uI S 34 5 (gI S 81 5)) 81 6)) 81 7))) rfl) (show J w (d + 3) m_T_copyFrom (n0, z0, none, mk c z.2) 34 [some (.ref 34), some (.ref 81), some (.int (0 : Int32))] [] (mk c (uI (uI (uI (uI S 34 5 (gI S 81 5)) 34 6 (gI (uI S 34 5 (gI S 81 5)) 81 6)) 34 7 (gI (uI (uI S 34 5 (gI S 81 5)) 34 6 (gI (uI S 34 5 (gI S 81 5)) 81 6)) 81 7)) 34 8 (gI (uI (uI (uI S 34 5 (gI S 81 5)) 34 6 (gI (uI S 34 5 (gI S 81 5)) 81 6)) 34 7 (gI (uI (uI S 34 5 (gI S 81 5)) 34 6 (gI (uI S 34 5 (gI S 81 5)) 81 6)) 81 7)) 81 8))) from ?_)))))))))
  refine J.mask [true, true, true] ?_
  refine lo_T_copyFrom_81_34 w d c  ?_ 1000 (uI (uI (uI (uI S 34 5 (gI S 81 5)) 34 6 (gI (uI S 34 5 (gI S 81 5)) 81 6)) 34 7 (gI (uI (uI S 34 5 (gI S 81 5)) 34 6 (gI (uI S 34 5 (gI S 81 5)) 81 6)) 81 7)) 34 8 (gI (uI (uI (uI S 34 5 (gI S 81 5)) 34 6 (gI (uI S 34 5 (gI S 81 5)) 81 6)) 34 7 (gI (uI (uI S 34 5 (gI S 81 5)) 34 6 (gI (uI S 34 5 (gI S 81 5)) 81 6)) 81 7)) 81 8)) (0 : Int32) H
  · intro S3 y4 H
    try dsimp only at H
    refine J.run b_T_copyFrom_64_2 k_T_copyFrom_64_2 rfl (show J w (d + 3) m_T_copyFrom (n0, z0, none, mk c z.2) 66 [some (.ref 34), some (.ref 81), some (.int (0 : Int32))] [] (mk c S3) from ?_)
    refine J.mask [true, true, true] ?_
    refine lo_T_copyFrom_81_66 w d c  ?_ 1000 S3 (0 : Int32) H
    · intro S7 y8 H
      try dsimp only at H
      refine J.run b_T_copyFrom_97_2 k_T_copyFrom_97_2 rfl (show J w (d + 3) m_T_copyFrom (n0, z0, none, mk c z.2) 99 [some (.ref 34), some (.ref 81), some (.int (0 : Int32))] [] (mk c S7) from ?_)
      refine J.mask [true, true, true] ?_
      refine lo_T_copyFrom_81_99 w d c  ?_ 1000 S7 (0 : Int32) H
      · intro S11 y12 H
        try dsimp only at H
        refine J.run b_T_copyFrom_128_4 k_T_copyFrom_128_4 rfl (And.intro (okO_st (S := S11) rfl) (And.intro (okO_st (S := S11) rfl) (show J w (d + 3) m_T_copyFrom (n0, z0, none, mk c z.2) 136 [some (.ref 34), some (.ref 81), none] [.ref 121, .ref 74] (mk c S11) from ?_)))
        obtain ⟨r13, S14, h15, H⟩ := bd_e H
        refine J.callV (y := m_A_copyFrom) (av := [.ref 121]) (rest := []) (q := 74) l_T_94 d_T_copyFrom_136 (isC_st rfl rfl) (c_A_copyFrom_121 w (d + 0) c  S11 h15) rfl (Nat.le_of_ble_eq_true rfl) ⟨Nat.le_refl _, Nat.le_refl _⟩ (show J w (d + 3) m_T_copyFrom (n0, z0, none, mk c z.2) 139 [some (.ref 34), some (.ref 81), none] [] (mk c S14) from ?_)
        obtain rfl := some_e H
        exact J.vret d_T_copyFrom_139 rfl rfl
def b_X_again_0_2 : List Ins := [(.aload_n 0, 0, 0, 0), (.getfield 49, 0, 7, 0)]
theorem k_X_again_0_2 : bok m_X_again 0 b_X_again_0_2 = true := by decide +kernel
def b_X_again_10_4 : List Ins := [(.aload_n 0, 0, 0, 0), (.getfield 10, 0, 0, 2), (.aload_n 0, 0, 0, 0), (.getfield 16, 0, 1, 2)]
theorem k_X_again_10_4 : bok m_X_again 10 b_X_again_10_4 = true := by decide +kernel
def b_X_again_21_1 : List Ins := [(.iconst (1), 0, 0, 0)]
theorem k_X_again_21_1 : bok m_X_again 21 b_X_again_21_1 = true := by decide +kernel
def b_X_again_7_1 : List Ins := [(.bipush (-3), 0, 0, 0)]
theorem k_X_again_7_1 : bok m_X_again 7 b_X_again_7_1 = true := by decide +kernel
theorem d_X_again_4 : decode m_X_again.2.1 4 = .ok (.ifCond .ne (6), 3) := by decide +kernel
theorem d_X_again_18 : decode m_X_again.2.1 18 = .ok (.invokevirtual 325, 3) := by decide +kernel
theorem d_X_again_22 : decode m_X_again.2.1 22 = .ok (.ireturn, 1) := by decide +kernel
theorem d_X_again_9 : decode m_X_again.2.1 9 = .ok (.ireturn, 1) := by decide +kernel
def f_X_again  (S : hs)  : Option (Int32 × hs) := (if (gI S 33 7) = 0 then some ((-3 : Int32), S) else bd (f_T_copyFrom_81  S) fun r2 S3 => some ((1 : Int32), S3))
theorem c_X_again (w : Wd) (d : Nat) (c : cx)   (S : hs)   {z : Int32 × hs} (H : f_X_again S = some z) : Cl w (d + 4) m_X_again [.ref 33] (mk c S) (some (.int z.1)) (mk c z.2) := by
  refine Cl.of (Nat.le_refl _) (Nat.le_refl _) (by decide +kernel) (Nat.le_of_ble_eq_true rfl) ?_
  unfold f_X_again at H
  generalize hN (mk c S) = n0
  generalize hZ (mk c S) = z0
  show J w (d + 4) m_X_again (n0, z0, some (.int z.1), mk c z.2) 0 [some (.ref 33)] [] (mk c S)
  refine J.run b_X_again_0_2 k_X_again_0_2 rfl (And.intro (okO_st (S := S) rfl) (show J w (d + 4) m_X_again (n0, z0, some (.int z.1), mk c z.2) 4 [some (.ref 33)] [.int (gI S 33 7)] (mk c S) from ?_))
  refine J.zne (tgt := 10) d_X_again_4 rfl (fun q1 => ?_) (fun q1 => ?_)
  · have H := ite_f H q1
    refine J.run b_X_again_10_4 k_X_again_10_4 rfl (And.intro (okO_st (S := S) rfl) (And.intro (okO_st (S := S) rfl) (show J w (d + 4) m_X_again (n0, z0, some (.int z.1), mk c z.2) 18 [some (.ref 33)] [.ref 81, .ref 34] (mk c S) from ?_)))
    obtain ⟨r2, S3, h4, H⟩ := bd_e H
    refine J.callV (y := m_T_copyFrom) (av := [.ref 81]) (rest := []) (q := 34) l_X_325 d_X_again_18 (isC_st rfl rfl) (c_T_copyFrom_81 w (d + 0) c  S h4) rfl (Nat.le_of_ble_eq_true rfl) ⟨Nat.le_refl _, Nat.le_refl _⟩ (show J w (d + 4) m_X_again (n0, z0, some (.int z.1), mk c z.2) 21 [some (.ref 33)] [] (mk c S3) from ?_)
    refine J.run b_X_again_21_1 k_X_again_21_1 rfl (show J w (d + 4) m_X_again (n0, z0, some (.int z.1), mk c z.2) 22 [some (.ref 33)] [.int (1 : Int32)] (mk c S3) from ?_)
    obtain rfl := some_e H
    exact J.iret d_X_again_22 rfl rfl
  · have H := ite_t H q1
    refine J.run b_X_again_7_1 k_X_again_7_1 rfl (show J w (d + 4) m_X_again (n0, z0, some (.int z.1), mk c z.2) 9 [some (.ref 33)] [.int (-3 : Int32)] (mk c S) from ?_)
    obtain rfl := some_e H
    exact J.iret d_X_again_9 rfl rfl
