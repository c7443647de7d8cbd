/-! The things' methods, on. -/
def b_G_goes_0_2 : List Ins := [(.aload_n 0, 0, 0, 0), (.bipush (11), 0, 0, 0)]
theorem k_G_goes_0_2 : bok m_G_goes 0 b_G_goes_0_2 = true := by decide +kernel
theorem d_G_goes_3 : decode m_G_goes.2.1 3 = .ok (.invokevirtual 25, 3) := by decide +kernel
def b_G_goes_6_2 : List Ins := [(.aload_n 0, 0, 0, 0), (.iload_n 1, 0, 0, 0)]
theorem k_G_goes_6_2 : bok m_G_goes 6 b_G_goes_6_2 = true := by decide +kernel
theorem d_G_goes_8 : decode m_G_goes.2.1 8 = .ok (.invokevirtual 29, 3) := by decide +kernel
def b_G_goes_11_2 : List Ins := [(.iconst (2), 0, 0, 0), (.imul, 0, 0, 0)]
theorem k_G_goes_11_2 : bok m_G_goes 11 b_G_goes_11_2 = true := by decide +kernel
theorem d_G_goes_13 : decode m_G_goes.2.1 13 = .ok (.ireturn, 1) := by decide +kernel
theorem c_G_goes (w : Wd) (d : Nat) (c : cx) (S : hs) (t ci : Nat) (x : Int32) (hT : Tg c t ci) (h3 : Ok3 S t) : Cl w (d + 3) m_G_goes [.ref t, .int x] (mk c S) (some (.int (vTu ci (gI S t 0) (gI S t 1) x * (2 : Int32)))) (mk c (bgs S t (11 :: bTu ci))) := by
  refine Cl.of (mk_le _ _ _).1 (mk_le _ _ _).2 (by decide +kernel) (Nat.le_of_ble_eq_true rfl) ?_
  generalize hN (mk c S) = n0
  generalize hZ (mk c S) = z0
  show J w (d + 3) m_G_goes (n0, z0, some (.int (vTu ci (gI S t 0) (gI S t 1) x * (2 : Int32))), mk c (bgs S t (11 :: bTu ci))) 0 [some (.ref t), some (.int x)] [] (mk c S)
  refine J.run b_G_goes_0_2 k_G_goes_0_2 rfl (show J w (d + 3) m_G_goes (n0, z0, some (.int (vTu ci (gI S t 0) (gI S t 1) x * (2 : Int32))), mk c (bgs S t (11 :: bTu ci))) 3 [some (.ref t), some (.int x)] [.int (11 : Int32), .ref t] (mk c S) from ?_)
  refine J.callU (y := m_G_begin) (o := m_G_begin) (x := (⟨"LeftTown$Thing", "begin", "(I)V"⟩ : MethodName)) (C := cN ci) (av := [.int (11 : Int32)]) (rest := []) (q := t) (lu_G_25 hT.five) d_G_goes_3 (isC_t hT) (c_G_begin w (d + 2) c S t ci 11 hT h3) rfl (Nat.le_of_ble_eq_true rfl) (mk_le _ _ _) (show J w (d + 3) m_G_goes (n0, z0, some (.int (vTu ci (gI S t 0) (gI S t 1) x * (2 : Int32))), mk c (bgs S t (11 :: bTu ci))) 6 [some (.ref t), some (.int x)] [] (mk c (bgs S t [11])) from ?_)
  refine J.run b_G_goes_6_2 k_G_goes_6_2 rfl (show J w (d + 3) m_G_goes (n0, z0, some (.int (vTu ci (gI S t 0) (gI S t 1) x * (2 : Int32))), mk c (bgs S t (11 :: bTu ci))) 8 [some (.ref t), some (.int x)] [.int x, .ref t] (mk c (bgs S t [11])) from ?_)
  have hv := cv_turns w d c (bgs S t [11]) t ci x hT (Ok3.bgs [11] h3)
  rw [bgs_0, bgs_1, bgs_app] at hv
  simp only [List.cons_append, List.nil_append] at hv
  refine J.callU (y := mTu ci) (o := m_G_turns) (x := (⟨"LeftTown$Thing", "turns", "(I)I"⟩ : MethodName)) (C := cN ci) (av := [.int x]) (rest := []) (q := t) (lu_G_29 hT.five) d_G_goes_8 (isC_t hT) (hv) rfl (Nat.le_of_ble_eq_true rfl) (mk_le _ _ _) (show J w (d + 3) m_G_goes (n0, z0, some (.int (vTu ci (gI S t 0) (gI S t 1) x * (2 : Int32))), mk c (bgs S t (11 :: bTu ci))) 11 [some (.ref t), some (.int x)] [.int (vTu ci (gI S t 0) (gI S t 1) x)] (mk c (bgs S t (11 :: bTu ci))) from ?_)
  refine J.run b_G_goes_11_2 k_G_goes_11_2 rfl (show J w (d + 3) m_G_goes (n0, z0, some (.int (vTu ci (gI S t 0) (gI S t 1) x * (2 : Int32))), mk c (bgs S t (11 :: bTu ci))) 13 [some (.ref t), some (.int x)] [.int (vTu ci (gI S t 0) (gI S t 1) x * (2 : Int32))] (mk c (bgs S t (11 :: bTu ci))) from ?_)
  exact J.iret d_G_goes_13 rfl rfl
def b_G2_goes_0_2 : List Ins := [(.aload_n 0, 0, 0, 0), (.bipush (30), 0, 0, 0)]
theorem k_G2_goes_0_2 : bok m_G2_goes 0 b_G2_goes_0_2 = true := by decide +kernel
theorem d_G2_goes_3 : decode m_G2_goes.2.1 3 = .ok (.invokevirtual 7, 3) := by decide +kernel
def b_G2_goes_6_2 : List Ins := [(.aload_n 0, 0, 0, 0), (.iload_n 1, 0, 0, 0)]
theorem k_G2_goes_6_2 : bok m_G2_goes 6 b_G2_goes_6_2 = true := by decide +kernel
theorem d_G2_goes_8 : decode m_G2_goes.2.1 8 = .ok (.invokespecial 13, 3) := by decide +kernel
def b_G2_goes_11_3 : List Ins := [(.aload_n 0, 0, 0, 0), (.getfield 17, 12, 1, 0), (.isub, 0, 0, 0)]
theorem k_G2_goes_11_3 : bok m_G2_goes 11 b_G2_goes_11_3 = true := by decide +kernel
theorem d_G2_goes_16 : decode m_G2_goes.2.1 16 = .ok (.ireturn, 1) := by decide +kernel
theorem c_G2_goes (w : Wd) (d : Nat) (c : cx) (S : hs) (t ci : Nat) (x : Int32) (hT : Tg c t ci) (hc : ci = 7 ∨ ci = 8) (h3 : Ok3 S t) : Cl w (d + 4) m_G2_goes [.ref t, .int x] (mk c S) (some (.int (vTu ci (gI S t 0) (gI S t 1) x * (2 : Int32) - gI S t 1))) (mk c (bgs S t (30 :: 11 :: bTu ci))) := by
  refine Cl.of (mk_le _ _ _).1 (mk_le _ _ _).2 (by decide +kernel) (Nat.le_of_ble_eq_true rfl) ?_
  generalize hN (mk c S) = n0
  generalize hZ (mk c S) = z0
  show J w (d + 4) m_G2_goes (n0, z0, some (.int (vTu ci (gI S t 0) (gI S t 1) x * (2 : Int32) - gI S t 1)), mk c (bgs S t (30 :: 11 :: bTu ci))) 0 [some (.ref t), some (.int x)] [] (mk c S)
  refine J.run b_G2_goes_0_2 k_G2_goes_0_2 rfl (show J w (d + 4) m_G2_goes (n0, z0, some (.int (vTu ci (gI S t 0) (gI S t 1) x * (2 : Int32) - gI S t 1)), mk c (bgs S t (30 :: 11 :: bTu ci))) 3 [some (.ref t), some (.int x)] [.int (30 : Int32), .ref t] (mk c S) from ?_)
  refine J.callU (y := m_G_begin) (o := m_G_begin) (x := (⟨"LeftTown$Left", "begin", "(I)V"⟩ : MethodName)) (C := cN ci) (av := [.int (30 : Int32)]) (rest := []) (q := t) (lu_G2_7 hc) d_G2_goes_3 (isC_t hT) (c_G_begin w (d + 3) c S t ci 30 hT h3) rfl (Nat.le_of_ble_eq_true rfl) (mk_le _ _ _) (show J w (d + 4) m_G2_goes (n0, z0, some (.int (vTu ci (gI S t 0) (gI S t 1) x * (2 : Int32) - gI S t 1)), mk c (bgs S t (30 :: 11 :: bTu ci))) 6 [some (.ref t), some (.int x)] [] (mk c (bgs S t [30])) from ?_)
  refine J.run b_G2_goes_6_2 k_G2_goes_6_2 rfl (show J w (d + 4) m_G2_goes (n0, z0, some (.int (vTu ci (gI S t 0) (gI S t 1) x * (2 : Int32) - gI S t 1)), mk c (bgs S t (30 :: 11 :: bTu ci))) 8 [some (.ref t), some (.int x)] [.int x, .ref t] (mk c (bgs S t [30])) from ?_)
  have hv := c_G_goes w d c (bgs S t [30]) t ci x hT (Ok3.bgs [30] h3)
  rw [bgs_0, bgs_1, bgs_app] at hv
  simp only [List.cons_append, List.nil_append] at hv
  refine J.callSU (y := m_G_goes) (x := (⟨"LeftTown$Thing", "goes", "(I)I"⟩ : MethodName)) (C := cN ci) (av := [.int x]) (rest := []) (q := t) ls_G2_13 d_G2_goes_8 (isC_t hT) (hv) rfl (Nat.le_of_ble_eq_true rfl) (mk_le _ _ _) (show J w (d + 4) m_G2_goes (n0, z0, some (.int (vTu ci (gI S t 0) (gI S t 1) x * (2 : Int32) - gI S t 1)), mk c (bgs S t (30 :: 11 :: bTu ci))) 11 [some (.ref t), some (.int x)] [.int (vTu ci (gI S t 0) (gI S t 1) x * (2 : Int32))] (mk c (bgs S t (30 :: 11 :: bTu ci))) from ?_)
  refine J.run b_G2_goes_11_3 k_G2_goes_11_3 rfl (And.intro (okO_t hT) (show J w (d + 4) m_G2_goes (n0, z0, some (.int (vTu ci (gI S t 0) (gI S t 1) x * (2 : Int32) - gI S t 1)), mk c (bgs S t (30 :: 11 :: bTu ci))) 16 [some (.ref t), some (.int x)] [.int (vTu ci (gI S t 0) (gI S t 1) x * (2 : Int32) - gI (bgs S t (30 :: 11 :: bTu ci)) t 1)] (mk c (bgs S t (30 :: 11 :: bTu ci))) from ?_))
  rw [bgs_1]
  exact J.iret d_G2_goes_16 rfl rfl
def b_G5_goes_0_2 : List Ins := [(.aload_n 0, 0, 0, 0), (.bipush (60), 0, 0, 0)]
theorem k_G5_goes_0_2 : bok m_G5_goes 0 b_G5_goes_0_2 = true := by decide +kernel
theorem d_G5_goes_3 : decode m_G5_goes.2.1 3 = .ok (.invokevirtual 7, 3) := by decide +kernel
def b_G5_goes_6_3 : List Ins := [(.iconst (0), 0, 0, 0), (.aload_n 0, 0, 0, 0), (.iload_n 1, 0, 0, 0)]
theorem k_G5_goes_6_3 : bok m_G5_goes 6 b_G5_goes_6_3 = true := by decide +kernel
theorem d_G5_goes_9 : decode m_G5_goes.2.1 9 = .ok (.invokespecial 13, 3) := by decide +kernel
def b_G5_goes_12_1 : List Ins := [(.isub, 0, 0, 0)]
theorem k_G5_goes_12_1 : bok m_G5_goes 12 b_G5_goes_12_1 = true := by decide +kernel
theorem d_G5_goes_13 : decode m_G5_goes.2.1 13 = .ok (.ireturn, 1) := by decide +kernel
theorem c_G5_goes (w : Wd) (d : Nat) (c : cx) (S : hs) (t : Nat) (x : Int32) (hT : Tg c t 10) (h3 : Ok3 S t) : Cl w (d + 4) m_G5_goes [.ref t, .int x] (mk c S) (some (.int ((0 : Int32) - vTu 10 (gI S t 0) (gI S t 1) x * (2 : Int32)))) (mk c (bgs S t (60 :: 11 :: bTu 10))) := by
  refine Cl.of (mk_le _ _ _).1 (mk_le _ _ _).2 (by decide +kernel) (Nat.le_of_ble_eq_true rfl) ?_
  generalize hN (mk c S) = n0
  generalize hZ (mk c S) = z0
  show J w (d + 4) m_G5_goes (n0, z0, some (.int ((0 : Int32) - vTu 10 (gI S t 0) (gI S t 1) x * (2 : Int32))), mk c (bgs S t (60 :: 11 :: bTu 10))) 0 [some (.ref t), some (.int x)] [] (mk c S)
  refine J.run b_G5_goes_0_2 k_G5_goes_0_2 rfl (show J w (d + 4) m_G5_goes (n0, z0, some (.int ((0 : Int32) - vTu 10 (gI S t 0) (gI S t 1) x * (2 : Int32))), mk c (bgs S t (60 :: 11 :: bTu 10))) 3 [some (.ref t), some (.int x)] [.int (60 : Int32), .ref t] (mk c S) from ?_)
  refine J.callU (y := m_G_begin) (o := m_G_begin) (x := (⟨"LeftTown$Round", "begin", "(I)V"⟩ : MethodName)) (C := cN 10) (av := [.int (60 : Int32)]) (rest := []) (q := t) (lu_G5_7 rfl) d_G5_goes_3 (isC_t hT) (c_G_begin w (d + 3) c S t 10 60 hT h3) rfl (Nat.le_of_ble_eq_true rfl) (mk_le _ _ _) (show J w (d + 4) m_G5_goes (n0, z0, some (.int ((0 : Int32) - vTu 10 (gI S t 0) (gI S t 1) x * (2 : Int32))), mk c (bgs S t (60 :: 11 :: bTu 10))) 6 [some (.ref t), some (.int x)] [] (mk c (bgs S t [60])) from ?_)
  refine J.run b_G5_goes_6_3 k_G5_goes_6_3 rfl (show J w (d + 4) m_G5_goes (n0, z0, some (.int ((0 : Int32) - vTu 10 (gI S t 0) (gI S t 1) x * (2 : Int32))), mk c (bgs S t (60 :: 11 :: bTu 10))) 9 [some (.ref t), some (.int x)] [.int x, .ref t, .int (0 : Int32)] (mk c (bgs S t [60])) from ?_)
  have hv := c_G_goes w d c (bgs S t [60]) t 10 x hT (Ok3.bgs [60] h3)
  rw [bgs_0, bgs_1, bgs_app] at hv
  simp only [List.cons_append, List.nil_append] at hv
  refine J.callSU (y := m_G_goes) (x := (⟨"LeftTown$Right", "goes", "(I)I"⟩ : MethodName)) (C := cN 10) (av := [.int x]) (rest := [.int (0 : Int32)]) (q := t) ls_G5_13 d_G5_goes_9 (isC_t hT) (hv) rfl (Nat.le_of_ble_eq_true rfl) (mk_le _ _ _) (show J w (d + 4) m_G5_goes (n0, z0, some (.int ((0 : Int32) - vTu 10 (gI S t 0) (gI S t 1) x * (2 : Int32))), mk c (bgs S t (60 :: 11 :: bTu 10))) 12 [some (.ref t), some (.int x)] [.int (vTu 10 (gI S t 0) (gI S t 1) x * (2 : Int32)), .int (0 : Int32)] (mk c (bgs S t (60 :: 11 :: bTu 10))) from ?_)
  refine J.run b_G5_goes_12_1 k_G5_goes_12_1 rfl (show J w (d + 4) m_G5_goes (n0, z0, some (.int ((0 : Int32) - vTu 10 (gI S t 0) (gI S t 1) x * (2 : Int32))), mk c (bgs S t (60 :: 11 :: bTu 10))) 13 [some (.ref t), some (.int x)] [.int ((0 : Int32) - vTu 10 (gI S t 0) (gI S t 1) x * (2 : Int32))] (mk c (bgs S t (60 :: 11 :: bTu 10))) from ?_)
  exact J.iret d_G5_goes_13 rfl rfl
theorem cv_goes (w : Wd) (d : Nat) (c : cx) (S : hs) (t ci : Nat) (x : Int32) (hT : Tg c t ci) (h3 : Ok3 S t) : Cl w (d + 4) (mGo ci) [.ref t, .int x] (mk c S) (some (.int (vGo ci (gI S t 0) (gI S t 1) x))) (mk c (bgs S t (bGo ci))) := by
  rcases hT.five with rfl | rfl | rfl | rfl | rfl
  · exact c_G_goes w (d + 1) c S t 6 x hT h3
  · exact c_G2_goes w d c S t 7 x hT (Or.inl rfl) h3
  · exact c_G2_goes w d c S t 8 x hT (Or.inr rfl) h3
  · exact c_G_goes w (d + 1) c S t 9 x hT h3
  · exact c_G5_goes w d c S t x hT h3
