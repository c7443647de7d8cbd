/-! The things' methods, on. -/
def b_G_sees_0_2 : List Ins := [(.aload_n 0, 0, 0, 0), (.bipush (12), 0, 0, 0)]
theorem k_G_sees_0_2 : bok m_G_sees 0 b_G_sees_0_2 = true := by decide +kernel
theorem d_G_sees_3 : decode m_G_sees.2.1 3 = .ok (.invokevirtual 25, 3) := by decide +kernel
def b_G_sees_6_7 : List Ins := [(.aload_n 0, 0, 0, 0), (.getfield 19, 12, 1, 0), (.aload_n 0, 0, 0, 0), (.getfield 15, 12, 0, 0), (.isub, 0, 0, 0), (.istore_n 2, 0, 0, 0), (.iload_n 2, 0, 0, 0)]
theorem k_G_sees_6_7 : bok m_G_sees 6 b_G_sees_6_7 = true := by decide +kernel
theorem d_G_sees_17 : decode m_G_sees.2.1 17 = .ok (.ifCond .ne (8), 3) := by decide +kernel
def b_G_sees_25_3 : List Ins := [(.iload_n 1, 0, 0, 0), (.iload_n 2, 0, 0, 0), (.idiv, 0, 0, 0)]
theorem k_G_sees_25_3 : bok m_G_sees 25 b_G_sees_25_3 = true := by decide +kernel
theorem d_G_sees_28 : decode m_G_sees.2.1 28 = .ok (.ireturn, 1) := by decide +kernel
def b_G_sees_20_1 : List Ins := [(.bipush (-15), 0, 0, 0)]
theorem k_G_sees_20_1 : bok m_G_sees 20 b_G_sees_20_1 = true := by decide +kernel
theorem d_G_sees_22 : decode m_G_sees.2.1 22 = .ok (.goto (6), 3) := by decide +kernel
theorem c_G_sees (w : Wd) (d : Nat) (c : cx) (S : hs) (t ci : Nat) (x : Int32) (hT : Tg c t ci) (h3 : Ok3 S t) : Cl w (d + 1) m_G_sees [.ref t, .int x] (mk c S) (some (.int (vS0 (gI S t 0) (gI S t 1) x))) (mk c (bgs S t [12])) := by
  refine Cl.of (mk_le _ _ _).1 (mk_le _ _ _).2 (by decide +kernel) (Nat.le_of_ble_eq_true rfl) ?_
  generalize hN (mk c S) = n0
  generalize hZ (mk c S) = z0
  show J w (d + 1) m_G_sees (n0, z0, some (.int (vS0 (gI S t 0) (gI S t 1) x)), mk c (bgs S t [12])) 0 [some (.ref t), some (.int x), none] [] (mk c S)
  refine J.run b_G_sees_0_2 k_G_sees_0_2 rfl (show J w (d + 1) m_G_sees (n0, z0, some (.int (vS0 (gI S t 0) (gI S t 1) x)), mk c (bgs S t [12])) 3 [some (.ref t), some (.int x), none] [.int (12 : Int32), .ref t] (mk c S) from ?_)
  refine J.callU (y := m_G_begin) (o := m_G_begin) (x := (⟨"LeftTown$Thing", "begin", "(I)V"⟩ : MethodName)) (C := cN ci) (av := [.int (12 : Int32)]) (rest := []) (q := t) (lu_G_25 hT.five) d_G_sees_3 (isC_t hT) (c_G_begin w d c S t ci 12 hT h3) rfl (Nat.le_of_ble_eq_true rfl) (mk_le _ _ _) (show J w (d + 1) m_G_sees (n0, z0, some (.int (vS0 (gI S t 0) (gI S t 1) x)), mk c (bgs S t [12])) 6 [some (.ref t), some (.int x), none] [] (mk c (bgs S t [12])) from ?_)
  refine J.run b_G_sees_6_7 k_G_sees_6_7 rfl (And.intro (okO_t hT) (And.intro (okO_t hT) (show J w (d + 1) m_G_sees (n0, z0, some (.int (vS0 (gI S t 0) (gI S t 1) x)), mk c (bgs S t [12])) 17 [some (.ref t), some (.int x), some (.int (gI (bgs S t [12]) t 1 - gI (bgs S t [12]) t 0))] [.int (gI (bgs S t [12]) t 1 - gI (bgs S t [12]) t 0)] (mk c (bgs S t [12])) from ?_)))
  rw [bgs_0, bgs_1]
  refine J.zne (tgt := 25) d_G_sees_17 rfl (fun q => ?_) (fun q => ?_)
  · rw [show vS0 (gI S t 0) (gI S t 1) x = x / (gI S t 1 - gI S t 0) from if_neg q]
    refine J.run b_G_sees_25_3 k_G_sees_25_3 rfl (And.intro q (show J w (d + 1) m_G_sees (n0, z0, some (.int (x / (gI S t 1 - gI S t 0))), mk c (bgs S t [12])) 28 [some (.ref t), some (.int x), some (.int (gI S t 1 - gI S t 0))] [.int (x / (gI S t 1 - gI S t 0))] (mk c (bgs S t [12])) from ?_))
    exact J.iret d_G_sees_28 rfl rfl
  · rw [show vS0 (gI S t 0) (gI S t 1) x = -15 from if_pos q]
    refine J.run b_G_sees_20_1 k_G_sees_20_1 rfl (show J w (d + 1) m_G_sees (n0, z0, some (.int (-15 : Int32)), mk c (bgs S t [12])) 22 [some (.ref t), some (.int x), some (.int (gI S t 1 - gI S t 0))] [.int (-15 : Int32)] (mk c (bgs S t [12])) from ?_)
    refine J.goto (tgt := 28) d_G_sees_22 rfl ?_
    exact J.iret d_G_sees_28 rfl rfl
def b_G4_sees_0_2 : List Ins := [(.aload_n 0, 0, 0, 0), (.bipush (40), 0, 0, 0)]
theorem k_G4_sees_0_2 : bok m_G4_sees 0 b_G4_sees_0_2 = true := by decide +kernel
theorem d_G4_sees_3 : decode m_G4_sees.2.1 3 = .ok (.invokevirtual 7, 3) := by decide +kernel
def b_G4_sees_6_4 : List Ins := [(.aload_n 0, 0, 0, 0), (.iload_n 1, 0, 0, 0), (.iconst (1), 0, 0, 0), (.iadd, 0, 0, 0)]
theorem k_G4_sees_6_4 : bok m_G4_sees 6 b_G4_sees_6_4 = true := by decide +kernel
theorem d_G4_sees_10 : decode m_G4_sees.2.1 10 = .ok (.invokespecial 13, 3) := by decide +kernel
theorem d_G4_sees_13 : decode m_G4_sees.2.1 13 = .ok (.ireturn, 1) := by decide +kernel
theorem c_G4_sees (w : Wd) (d : Nat) (c : cx) (S : hs) (t ci : Nat) (x : Int32) (hT : Tg c t ci) (hc : ci = 9 ∨ ci = 10) (h3 : Ok3 S t) : Cl w (d + 2) m_G4_sees [.ref t, .int x] (mk c S) (some (.int (vS0 (gI S t 0) (gI S t 1) (x + (1 : Int32))))) (mk c (bgs S t [40, 12])) := by
  refine Cl.of (mk_le _ _ _).1 (mk_le _ _ _).2 (by decide +kernel) (Nat.le_of_ble_eq_true rfl) ?_
  generalize hN (mk c S) = n0
  generalize hZ (mk c S) = z0
  show J w (d + 2) m_G4_sees (n0, z0, some (.int (vS0 (gI S t 0) (gI S t 1) (x + (1 : Int32)))), mk c (bgs S t [40, 12])) 0 [some (.ref t), some (.int x)] [] (mk c S)
  refine J.run b_G4_sees_0_2 k_G4_sees_0_2 rfl (show J w (d + 2) m_G4_sees (n0, z0, some (.int (vS0 (gI S t 0) (gI S t 1) (x + (1 : Int32)))), mk c (bgs S t [40, 12])) 3 [some (.ref t), some (.int x)] [.int (40 : Int32), .ref t] (mk c S) from ?_)
  refine J.callU (y := m_G_begin) (o := m_G_begin) (x := (⟨"LeftTown$Right", "begin", "(I)V"⟩ : MethodName)) (C := cN ci) (av := [.int (40 : Int32)]) (rest := []) (q := t) (lu_G4_7 hc) d_G4_sees_3 (isC_t hT) (c_G_begin w (d + 1) c S t ci 40 hT h3) rfl (Nat.le_of_ble_eq_true rfl) (mk_le _ _ _) (show J w (d + 2) m_G4_sees (n0, z0, some (.int (vS0 (gI S t 0) (gI S t 1) (x + (1 : Int32)))), mk c (bgs S t [40, 12])) 6 [some (.ref t), some (.int x)] [] (mk c (bgs S t [40])) from ?_)
  refine J.run b_G4_sees_6_4 k_G4_sees_6_4 rfl (show J w (d + 2) m_G4_sees (n0, z0, some (.int (vS0 (gI S t 0) (gI S t 1) (x + (1 : Int32)))), mk c (bgs S t [40, 12])) 10 [some (.ref t), some (.int x)] [.int (x + (1 : Int32)), .ref t] (mk c (bgs S t [40])) from ?_)
  have hv := c_G_sees w d c (bgs S t [40]) t ci (x + (1 : Int32)) hT (Ok3.bgs [40] h3)
  rw [bgs_0, bgs_1, bgs_app] at hv
  simp only [List.cons_append, List.nil_append] at hv
  refine J.callSU (y := m_G_sees) (x := (⟨"LeftTown$Thing", "sees", "(I)I"⟩ : MethodName)) (C := cN ci) (av := [.int (x + (1 : Int32))]) (rest := []) (q := t) ls_G4_13 d_G4_sees_10 (isC_t hT) (hv) rfl (Nat.le_of_ble_eq_true rfl) (mk_le _ _ _) (show J w (d + 2) m_G4_sees (n0, z0, some (.int (vS0 (gI S t 0) (gI S t 1) (x + (1 : Int32)))), mk c (bgs S t [40, 12])) 13 [some (.ref t), some (.int x)] [.int (vS0 (gI S t 0) (gI S t 1) (x + (1 : Int32)))] (mk c (bgs S t [40, 12])) from ?_)
  exact J.iret d_G4_sees_13 rfl rfl
def b_G5_sees_0_2 : List Ins := [(.aload_n 0, 0, 0, 0), (.bipush (61), 0, 0, 0)]
theorem k_G5_sees_0_2 : bok m_G5_sees 0 b_G5_sees_0_2 = true := by decide +kernel
theorem d_G5_sees_3 : decode m_G5_sees.2.1 3 = .ok (.invokevirtual 7, 3) := by decide +kernel
def b_G5_sees_6_2 : List Ins := [(.aload_n 0, 0, 0, 0), (.iload_n 1, 0, 0, 0)]
theorem k_G5_sees_6_2 : bok m_G5_sees 6 b_G5_sees_6_2 = true := by decide +kernel
theorem d_G5_sees_8 : decode m_G5_sees.2.1 8 = .ok (.invokespecial 17, 3) := by decide +kernel
def b_G5_sees_11_3 : List Ins := [(.aload_n 0, 0, 0, 0), (.aload_n 0, 0, 0, 0), (.getfield 20, 12, 0, 0)]
theorem k_G5_sees_11_3 : bok m_G5_sees 11 b_G5_sees_11_3 = true := by decide +kernel
theorem d_G5_sees_16 : decode m_G5_sees.2.1 16 = .ok (.invokevirtual 24, 3) := by decide +kernel
def b_G5_sees_19_1 : List Ins := [(.iadd, 0, 0, 0)]
theorem k_G5_sees_19_1 : bok m_G5_sees 19 b_G5_sees_19_1 = true := by decide +kernel
theorem d_G5_sees_20 : decode m_G5_sees.2.1 20 = .ok (.ireturn, 1) := by decide +kernel
theorem c_G5_sees (w : Wd) (d : Nat) (c : cx) (S : hs) (t : Nat) (x : Int32) (hT : Tg c t 10) (h3 : Ok3 S t) : Cl w (d + 3) m_G5_sees [.ref t, .int x] (mk c S) (some (.int (vS0 (gI S t 0) (gI S t 1) (x + (1 : Int32)) + (gI S t 0 + gI S t 1)))) (mk c (bgs S t [61, 40, 12, 10])) := by
  refine Cl.of (mk_le _ _ _).1 (mk_le _ _ _).2 (by decide +kernel) (Nat.le_of_ble_eq_true rfl) ?_
  generalize hN (mk c S) = n0
  generalize hZ (mk c S) = z0
  show J w (d + 3) m_G5_sees (n0, z0, some (.int (vS0 (gI S t 0) (gI S t 1) (x + (1 : Int32)) + (gI S t 0 + gI S t 1))), mk c (bgs S t [61, 40, 12, 10])) 0 [some (.ref t), some (.int x)] [] (mk c S)
  refine J.run b_G5_sees_0_2 k_G5_sees_0_2 rfl (show J w (d + 3) m_G5_sees (n0, z0, some (.int (vS0 (gI S t 0) (gI S t 1) (x + (1 : Int32)) + (gI S t 0 + gI S t 1))), mk c (bgs S t [61, 40, 12, 10])) 3 [some (.ref t), some (.int x)] [.int (61 : Int32), .ref t] (mk c S) from ?_)
  refine J.callU (y := m_G_begin) (o := m_G_begin) (x := (⟨"LeftTown$Round", "begin", "(I)V"⟩ : MethodName)) (C := cN 10) (av := [.int (61 : Int32)]) (rest := []) (q := t) (lu_G5_7 rfl) d_G5_sees_3 (isC_t hT) (c_G_begin w (d + 2) c S t 10 61 hT h3) rfl (Nat.le_of_ble_eq_true rfl) (mk_le _ _ _) (show J w (d + 3) m_G5_sees (n0, z0, some (.int (vS0 (gI S t 0) (gI S t 1) (x + (1 : Int32)) + (gI S t 0 + gI S t 1))), mk c (bgs S t [61, 40, 12, 10])) 6 [some (.ref t), some (.int x)] [] (mk c (bgs S t [61])) from ?_)
  refine J.run b_G5_sees_6_2 k_G5_sees_6_2 rfl (show J w (d + 3) m_G5_sees (n0, z0, some (.int (vS0 (gI S t 0) (gI S t 1) (x + (1 : Int32)) + (gI S t 0 + gI S t 1))), mk c (bgs S t [61, 40, 12, 10])) 8 [some (.ref t), some (.int x)] [.int x, .ref t] (mk c (bgs S t [61])) from ?_)
  have hv := c_G4_sees w d c (bgs S t [61]) t 10 x hT (Or.inr rfl) (Ok3.bgs [61] h3)
  rw [bgs_0, bgs_1, bgs_app] at hv
  simp only [List.cons_append, List.nil_append] at hv
  refine J.callSU (y := m_G4_sees) (x := (⟨"LeftTown$Right", "sees", "(I)I"⟩ : MethodName)) (C := cN 10) (av := [.int x]) (rest := []) (q := t) ls_G5_17 d_G5_sees_8 (isC_t hT) (hv) rfl (Nat.le_of_ble_eq_true rfl) (mk_le _ _ _) (show J w (d + 3) m_G5_sees (n0, z0, some (.int (vS0 (gI S t 0) (gI S t 1) (x + (1 : Int32)) + (gI S t 0 + gI S t 1))), mk c (bgs S t [61, 40, 12, 10])) 11 [some (.ref t), some (.int x)] [.int (vS0 (gI S t 0) (gI S t 1) (x + (1 : Int32)))] (mk c (bgs S t [61, 40, 12])) from ?_)
  refine J.run b_G5_sees_11_3 k_G5_sees_11_3 rfl (And.intro (okO_t hT) (show J w (d + 3) m_G5_sees (n0, z0, some (.int (vS0 (gI S t 0) (gI S t 1) (x + (1 : Int32)) + (gI S t 0 + gI S t 1))), mk c (bgs S t [61, 40, 12, 10])) 16 [some (.ref t), some (.int x)] [.int (gI (bgs S t [61, 40, 12]) t 0), .ref t, .int (vS0 (gI S t 0) (gI S t 1) (x + (1 : Int32)))] (mk c (bgs S t [61, 40, 12])) from ?_))
  rw [bgs_0]
  have hu := c_G_turns w (d + 1) c (bgs S t [61, 40, 12]) t 10 (gI S t 0) hT (Ok3.bgs [61, 40, 12] h3)
  rw [bgs_1, bgs_app] at hu
  simp only [List.cons_append, List.nil_append] at hu
  refine J.callU (y := m_G_turns) (o := m_G_turns) (x := (⟨"LeftTown$Round", "turns", "(I)I"⟩ : MethodName)) (C := cN 10) (av := [.int (gI S t 0)]) (rest := [.int (vS0 (gI S t 0) (gI S t 1) (x + (1 : Int32)))]) (q := t) (lu_G5_24 rfl) d_G5_sees_16 (isC_t hT) (hu) rfl (Nat.le_of_ble_eq_true rfl) (mk_le _ _ _) (show J w (d + 3) m_G5_sees (n0, z0, some (.int (vS0 (gI S t 0) (gI S t 1) (x + (1 : Int32)) + (gI S t 0 + gI S t 1))), mk c (bgs S t [61, 40, 12, 10])) 19 [some (.ref t), some (.int x)] [.int (gI S t 0 + gI S t 1), .int (vS0 (gI S t 0) (gI S t 1) (x + (1 : Int32)))] (mk c (bgs S t [61, 40, 12, 10])) from ?_)
  refine J.run b_G5_sees_19_1 k_G5_sees_19_1 rfl (show J w (d + 3) m_G5_sees (n0, z0, some (.int (vS0 (gI S t 0) (gI S t 1) (x + (1 : Int32)) + (gI S t 0 + gI S t 1))), mk c (bgs S t [61, 40, 12, 10])) 20 [some (.ref t), some (.int x)] [.int (vS0 (gI S t 0) (gI S t 1) (x + (1 : Int32)) + (gI S t 0 + gI S t 1))] (mk c (bgs S t [61, 40, 12, 10])) from ?_)
  exact J.iret d_G5_sees_20 rfl rfl
theorem cv_sees (w : Wd) (d : Nat) (c : cx) (S : hs) (t ci : Nat) (x : Int32) (hT : Tg c t ci) (h3 : Ok3 S t) : Cl w (d + 3) (mSe ci) [.ref t, .int x] (mk c S) (some (.int (vSe ci (gI S t 0) (gI S t 1) x))) (mk c (bgs S t (bSe ci))) := by
  rcases hT.five with rfl | rfl | rfl | rfl | rfl
  · exact c_G_sees w (d + 2) c S t 6 x hT h3
  · exact c_G_sees w (d + 2) c S t 7 x hT h3
  · exact c_G_sees w (d + 2) c S t 8 x hT h3
  · exact c_G4_sees w (d + 1) c S t 9 x hT (Or.inl rfl) h3
  · exact c_G5_sees w d c S t x hT h3
