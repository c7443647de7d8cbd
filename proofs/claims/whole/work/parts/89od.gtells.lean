/-! The things' methods, on. -/
def b_G_tells_0_2 : List Ins := [(.aload_n 0, 0, 0, 0), (.bipush (13), 0, 0, 0)]
theorem k_G_tells_0_2 : bok m_G_tells 0 b_G_tells_0_2 = true := by decide +kernel
theorem d_G_tells_3 : decode m_G_tells.2.1 3 = .ok (.invokevirtual 25, 3) := by decide +kernel
def b_G_tells_6_2 : List Ins := [(.aload_n 0, 0, 0, 0), (.iload_n 1, 0, 0, 0)]
theorem k_G_tells_6_2 : bok m_G_tells 6 b_G_tells_6_2 = true := by decide +kernel
theorem d_G_tells_8 : decode m_G_tells.2.1 8 = .ok (.invokevirtual 33, 3) := by decide +kernel
def b_G_tells_11_3 : List Ins := [(.aload_n 0, 0, 0, 0), (.getfield 15, 12, 0, 0), (.ixor, 0, 0, 0)]
theorem k_G_tells_11_3 : bok m_G_tells 11 b_G_tells_11_3 = true := by decide +kernel
theorem d_G_tells_16 : decode m_G_tells.2.1 16 = .ok (.ireturn, 1) := by decide +kernel
theorem c_G_tells (w : Wd) (d : Nat) (c : cx) (S : hs) (t ci : Nat) (x : Int32) (hT : Tg c t ci) (h3 : Ok3 S t) : Cl w (d + 5) m_G_tells [.ref t, .int x] (mk c S) (some (.int (vGo ci (gI S t 0) (gI S t 1) x ^^^ gI S t 0))) (mk c (bgs S t (13 :: bGo ci))) := by
  refine Cl.of (mk_le _ _ _).1 (mk_le _ _ _).2 (by decide +kernel) (Nat.le_of_ble_eq_true rfl) ?_
  generalize hN (mk c S) = n0
  generalize hZ (mk c S) = z0
  show J w (d + 5) m_G_tells (n0, z0, some (.int (vGo ci (gI S t 0) (gI S t 1) x ^^^ gI S t 0)), mk c (bgs S t (13 :: bGo ci))) 0 [some (.ref t), some (.int x)] [] (mk c S)
  refine J.run b_G_tells_0_2 k_G_tells_0_2 rfl (show J w (d + 5) m_G_tells (n0, z0, some (.int (vGo ci (gI S t 0) (gI S t 1) x ^^^ gI S t 0)), mk c (bgs S t (13 :: bGo ci))) 3 [some (.ref t), some (.int x)] [.int (13 : Int32), .ref t] (mk c S) from ?_)
  refine J.callU (y := m_G_begin) (o := m_G_begin) (x := (⟨"LeftTown$Thing", "begin", "(I)V"⟩ : MethodName)) (C := cN ci) (av := [.int (13 : Int32)]) (rest := []) (q := t) (lu_G_25 hT.five) d_G_tells_3 (isC_t hT) (c_G_begin w (d + 4) c S t ci 13 hT h3) rfl (Nat.le_of_ble_eq_true rfl) (mk_le _ _ _) (show J w (d + 5) m_G_tells (n0, z0, some (.int (vGo ci (gI S t 0) (gI S t 1) x ^^^ gI S t 0)), mk c (bgs S t (13 :: bGo ci))) 6 [some (.ref t), some (.int x)] [] (mk c (bgs S t [13])) from ?_)
  refine J.run b_G_tells_6_2 k_G_tells_6_2 rfl (show J w (d + 5) m_G_tells (n0, z0, some (.int (vGo ci (gI S t 0) (gI S t 1) x ^^^ gI S t 0)), mk c (bgs S t (13 :: bGo ci))) 8 [some (.ref t), some (.int x)] [.int x, .ref t] (mk c (bgs S t [13])) from ?_)
  have hv := cv_goes w d c (bgs S t [13]) t ci x hT (Ok3.bgs [13] h3)
  rw [bgs_0, bgs_1, bgs_app] at hv
  simp only [List.cons_append, List.nil_append] at hv
  refine J.callU (y := mGo ci) (o := m_G_goes) (x := (⟨"LeftTown$Thing", "goes", "(I)I"⟩ : MethodName)) (C := cN ci) (av := [.int x]) (rest := []) (q := t) (lu_G_33 hT.five) d_G_tells_8 (isC_t hT) (hv) rfl (Nat.le_of_ble_eq_true rfl) (mk_le _ _ _) (show J w (d + 5) m_G_tells (n0, z0, some (.int (vGo ci (gI S t 0) (gI S t 1) x ^^^ gI S t 0)), mk c (bgs S t (13 :: bGo ci))) 11 [some (.ref t), some (.int x)] [.int (vGo ci (gI S t 0) (gI S t 1) x)] (mk c (bgs S t (13 :: bGo ci))) from ?_)
  refine J.run b_G_tells_11_3 k_G_tells_11_3 rfl (And.intro (okO_t hT) (show J w (d + 5) m_G_tells (n0, z0, some (.int (vGo ci (gI S t 0) (gI S t 1) x ^^^ gI S t 0)), mk c (bgs S t (13 :: bGo ci))) 16 [some (.ref t), some (.int x)] [.int (vGo ci (gI S t 0) (gI S t 1) x ^^^ gI (bgs S t (13 :: bGo ci)) t 0)] (mk c (bgs S t (13 :: bGo ci))) from ?_))
  rw [bgs_0]
  exact J.iret d_G_tells_16 rfl rfl
def b_G3_tells_0_2 : List Ins := [(.aload_n 0, 0, 0, 0), (.bipush (51), 0, 0, 0)]
theorem k_G3_tells_0_2 : bok m_G3_tells 0 b_G3_tells_0_2 = true := by decide +kernel
theorem d_G3_tells_3 : decode m_G3_tells.2.1 3 = .ok (.invokevirtual 7, 3) := by decide +kernel
def b_G3_tells_6_2 : List Ins := [(.aload_n 0, 0, 0, 0), (.iload_n 1, 0, 0, 0)]
theorem k_G3_tells_6_2 : bok m_G3_tells 6 b_G3_tells_6_2 = true := by decide +kernel
theorem d_G3_tells_8 : decode m_G3_tells.2.1 8 = .ok (.invokespecial 21, 3) := by decide +kernel
def b_G3_tells_11_3 : List Ins := [(.aload_n 0, 0, 0, 0), (.aload_n 0, 0, 0, 0), (.getfield 17, 12, 0, 0)]
theorem k_G3_tells_11_3 : bok m_G3_tells 11 b_G3_tells_11_3 = true := by decide +kernel
theorem d_G3_tells_16 : decode m_G3_tells.2.1 16 = .ok (.invokevirtual 24, 3) := by decide +kernel
def b_G3_tells_19_1 : List Ins := [(.iadd, 0, 0, 0)]
theorem k_G3_tells_19_1 : bok m_G3_tells 19 b_G3_tells_19_1 = true := by decide +kernel
theorem d_G3_tells_20 : decode m_G3_tells.2.1 20 = .ok (.ireturn, 1) := by decide +kernel
theorem G3_tells_o (w : Wd) (d : Nat) (c : cx) (S S1 S2 S3 : hs) (t : Nat) (x v1 v2 : Int32) (hT : Tg c t 8) (hb : Cl w (d + 5) m_G_begin [.ref t, .int (51 : Int32)] (mk c S) none (mk c S1)) (hv : Cl w (d + 5) m_G_tells [.ref t, .int x] (mk c S1) (some (.int v1)) (mk c S2)) (hu : Cl w (d + 5) m_G_sees [.ref t, .int (gI S2 t 0)] (mk c S2) (some (.int v2)) (mk c S3)) : Cl w (d + 6) m_G3_tells [.ref t, .int x] (mk c S) (some (.int (v1 + v2))) (mk c S3) := by
  refine Cl.of (mk_le _ _ _).1 (mk_le _ _ _).2 (by decide +kernel) (Nat.le_of_ble_eq_true rfl) ?_
  generalize hN (mk c S) = n0
  generalize hZ (mk c S) = z0
  show J w (d + 6) m_G3_tells (n0, z0, some (.int (v1 + v2)), mk c S3) 0 [some (.ref t), some (.int x)] [] (mk c S)
  refine J.run b_G3_tells_0_2 k_G3_tells_0_2 rfl (show J w (d + 6) m_G3_tells (n0, z0, some (.int (v1 + v2)), mk c S3) 3 [some (.ref t), some (.int x)] [.int (51 : Int32), .ref t] (mk c S) from ?_)
  refine J.callU (y := m_G_begin) (o := m_G_begin) (x := (⟨"LeftTown$Sharp", "begin", "(I)V"⟩ : MethodName)) (C := cN 8) (av := [.int (51 : Int32)]) (rest := []) (q := t) (lu_G3_7 rfl) d_G3_tells_3 (isC_t hT) hb rfl (Nat.le_of_ble_eq_true rfl) (mk_le _ _ _) (show J w (d + 6) m_G3_tells (n0, z0, some (.int (v1 + v2)), mk c S3) 6 [some (.ref t), some (.int x)] [] (mk c S1) from ?_)
  refine J.run b_G3_tells_6_2 k_G3_tells_6_2 rfl (show J w (d + 6) m_G3_tells (n0, z0, some (.int (v1 + v2)), mk c S3) 8 [some (.ref t), some (.int x)] [.int x, .ref t] (mk c S1) from ?_)
  refine J.callSU (y := m_G_tells) (x := (⟨"LeftTown$Left", "tells", "(I)I"⟩ : MethodName)) (C := cN 8) (av := [.int x]) (rest := []) (q := t) ls_G3_21 d_G3_tells_8 (isC_t hT) hv rfl (Nat.le_of_ble_eq_true rfl) (mk_le _ _ _) (show J w (d + 6) m_G3_tells (n0, z0, some (.int (v1 + v2)), mk c S3) 11 [some (.ref t), some (.int x)] [.int v1] (mk c S2) from ?_)
  refine J.run b_G3_tells_11_3 k_G3_tells_11_3 rfl (And.intro (okO_t hT) (show J w (d + 6) m_G3_tells (n0, z0, some (.int (v1 + v2)), mk c S3) 16 [some (.ref t), some (.int x)] [.int (gI S2 t 0), .ref t, .int v1] (mk c S2) from ?_))
  refine J.callU (y := m_G_sees) (o := m_G_sees) (x := (⟨"LeftTown$Sharp", "sees", "(I)I"⟩ : MethodName)) (C := cN 8) (av := [.int (gI S2 t 0)]) (rest := [.int v1]) (q := t) (lu_G3_24 rfl) d_G3_tells_16 (isC_t hT) hu rfl (Nat.le_of_ble_eq_true rfl) (mk_le _ _ _) (show J w (d + 6) m_G3_tells (n0, z0, some (.int (v1 + v2)), mk c S3) 19 [some (.ref t), some (.int x)] [.int v2, .int v1] (mk c S3) from ?_)
  refine J.run b_G3_tells_19_1 k_G3_tells_19_1 rfl (show J w (d + 6) m_G3_tells (n0, z0, some (.int (v1 + v2)), mk c S3) 20 [some (.ref t), some (.int x)] [.int (v1 + v2)] (mk c S3) from ?_)
  exact J.iret d_G3_tells_20 rfl rfl
theorem c_G3_tells (w : Wd) (d : Nat) (c : cx) (S : hs) (t : Nat) (x : Int32) (hT : Tg c t 8) (h3 : Ok3 S t) : Cl w (d + 6) m_G3_tells [.ref t, .int x] (mk c S) (some (.int ((vGo 8 (gI S t 0) (gI S t 1) x ^^^ gI S t 0) + vS0 (gI S t 0) (gI S t 1) (gI S t 0)))) (mk c (bgs S t [51, 13, 30, 11, 50, 10, 12])) := by
  have hb := c_G_begin w (d + 5) c S t 8 51 hT h3
  have hv := c_G_tells w d c (bgs S t [51]) t 8 x hT (Ok3.bgs [51] h3)
  rw [bgs_0, bgs_1, bgs_app] at hv
  have hl : [51] ++ 13 :: bGo 8 = ([51, 13, 30, 11, 50, 10] : List Int32) := rfl
  rw [hl] at hv
  have hu := c_G_sees w (d + 4) c (bgs S t [51, 13, 30, 11, 50, 10]) t 8 (gI (bgs S t [51, 13, 30, 11, 50, 10]) t 0) hT (Ok3.bgs [51, 13, 30, 11, 50, 10] h3)
  have hr := G3_tells_o w d c S _ _ _ t x _ _ hT hb hv hu
  rw [bgs_0, bgs_1, bgs_app] at hr
  exact hr
theorem cv_tells (w : Wd) (d : Nat) (c : cx) (S : hs) (t ci : Nat) (x : Int32) (hT : Tg c t ci) (h3 : Ok3 S t) : Cl w (d + 6) (mTe ci) [.ref t, .int x] (mk c S) (some (.int (vTe ci (gI S t 0) (gI S t 1) x))) (mk c (bgs S t (bTe ci))) := by
  rcases hT.five with rfl | rfl | rfl | rfl | rfl
  · exact c_G_tells w (d + 1) c S t 6 x hT h3
  · exact c_G_tells w (d + 1) c S t 7 x hT h3
  · exact c_G3_tells w d c S t x hT h3
  · exact c_G_tells w (d + 1) c S t 9 x hT h3
  · exact c_G_tells w (d + 1) c S t 10 x hT h3
