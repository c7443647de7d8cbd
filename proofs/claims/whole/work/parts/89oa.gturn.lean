/-! The things' methods, on. -/
def b_G_begin_0_3 : List Ins := [(.aload_n 0, 0, 0, 0), (.getfield 22, 12, 3, 0), (.bipush (30), 0, 0, 0)]
theorem k_G_begin_0_3 : bok m_G_begin 0 b_G_begin_0_3 = true := by decide +kernel
def b_G_begin_9_2 : List Ins := [(.aload_n 0, 0, 0, 0), (.getfield 9, 12, 2, 2)]
theorem k_G_begin_9_2 : bok m_G_begin 9 b_G_begin_9_2 = true := by decide +kernel
def b_G_begin_13_10 : List Ins := [(.aload_n 0, 0, 0, 0), (.getfield 22, 12, 3, 0), (.iload_n 1, 0, 0, 0), (.iastore, 0, 0, 0), (.aload_n 0, 0, 0, 0), (.dup, 0, 0, 0), (.getfield 22, 12, 3, 0), (.iconst (1), 0, 0, 0), (.iadd, 0, 0, 0), (.putfield 22, 12, 3, 0)]
theorem k_G_begin_13_10 : bok m_G_begin 13 b_G_begin_13_10 = true := by decide +kernel
theorem d_G_begin_6 : decode m_G_begin.2.1 6 = .ok (.if_icmp .ge (23), 3) := by decide +kernel
theorem d_G_begin_29 : decode m_G_begin.2.1 29 = .ok (.return_, 1) := by decide +kernel
theorem c_G_begin (w : Wd) (d : Nat) (c : cx) (S : hs) (t ci : Nat) (x : Int32) (hT : Tg c t ci) (h3 : Ok3 S t) : Cl w d m_G_begin [.ref t, .int x] (mk c S) none (mk c (bgs S t [x])) := by
  have e0 : bgs S t [x] = bg S t x := rfl
  rw [e0]
  refine Cl.of (mk_le _ _ _).1 (mk_le _ _ _).2 (by decide +kernel) (Nat.le_of_ble_eq_true rfl) ?_
  generalize hN (mk c S) = n0
  generalize hZ (mk c S) = z0
  show J w d m_G_begin (n0, z0, none, mk c (bg S t x)) 0 [some (.ref t), some (.int x)] [] (mk c S)
  refine J.run b_G_begin_0_3 k_G_begin_0_3 rfl (And.intro (okO_t hT) (show J w d m_G_begin (n0, z0, none, mk c (bg S t x)) 6 [some (.ref t), some (.int x)] [.int (30 : Int32), .int (gI S t 3)] (mk c S) from ?_))
  refine J.cge (tgt := 29) d_G_begin_6 rfl (fun q => ?_) (fun q => ?_)
  · have e : bg S t x = S := if_pos q
    rw [e]
    exact J.vret d_G_begin_29 rfl rfl
  · obtain ⟨k, h1, h2⟩ := h3
    have hk : ¬ 30 ≤ k := fun z => q (by rw [h2]; exact le_y (a := 30) rfl (iN_i (by omega)) (by omega))
    have e : bg S t x = uI (uI S (t + 1) (gI S t 3).toNatClampNeg x) t 3 (gI (uI S (t + 1) (gI S t 3).toNatClampNeg x) t 3 + (1 : Int32)) := by
      unfold bg
      rw [if_neg q, gI_ua (show t ≠ t + 1 by omega)]
    rw [e]
    refine J.run b_G_begin_9_2 k_G_begin_9_2 rfl (And.intro (okO_t hT) (show J w d m_G_begin (n0, z0, none, mk c (uI (uI S (t + 1) (gI S t 3).toNatClampNeg x) t 3 (gI (uI S (t + 1) (gI S t 3).toNatClampNeg x) t 3 + (1 : Int32)))) 13 [some (.ref t), some (.int x)] [rv (hR (mk c S) t 2)] (mk c S) from ?_))
    rw [hR_t hT]
    show J w d m_G_begin (n0, z0, none, mk c (uI (uI S (t + 1) (gI S t 3).toNatClampNeg x) t 3 (gI (uI S (t + 1) (gI S t 3).toNatClampNeg x) t 3 + (1 : Int32)))) 13 [some (.ref t), some (.int x)] [.ref (t + 1)] (mk c S)
    refine J.run b_G_begin_13_10 k_G_begin_13_10 rfl (And.intro (okO_t hT) (And.intro (okB_t hT (by show inb (gI S t 3) 30 = true; rw [h2]; exact iN_b (by omega) (by decide))) (And.intro (okO_t (S := uI S (t + 1) (gI S t 3).toNatClampNeg x) hT) (And.intro (okO_t (S := uI S (t + 1) (gI S t 3).toNatClampNeg x) hT) (show J w d m_G_begin (n0, z0, none, mk c (uI (uI S (t + 1) (gI S t 3).toNatClampNeg x) t 3 (gI (uI S (t + 1) (gI S t 3).toNatClampNeg x) t 3 + (1 : Int32)))) 29 [some (.ref t), some (.int x)] [] (mk c (uI (uI S (t + 1) (gI S t 3).toNatClampNeg x) t 3 (gI (uI S (t + 1) (gI S t 3).toNatClampNeg x) t 3 + (1 : Int32)))) from ?_)))))
    exact J.vret d_G_begin_29 rfl rfl
def b_G_turns_0_2 : List Ins := [(.aload_n 0, 0, 0, 0), (.bipush (10), 0, 0, 0)]
theorem k_G_turns_0_2 : bok m_G_turns 0 b_G_turns_0_2 = true := by decide +kernel
theorem d_G_turns_3 : decode m_G_turns.2.1 3 = .ok (.invokevirtual 25, 3) := by decide +kernel
def b_G_turns_6_4 : List Ins := [(.iload_n 1, 0, 0, 0), (.aload_n 0, 0, 0, 0), (.getfield 19, 12, 1, 0), (.iadd, 0, 0, 0)]
theorem k_G_turns_6_4 : bok m_G_turns 6 b_G_turns_6_4 = true := by decide +kernel
theorem d_G_turns_12 : decode m_G_turns.2.1 12 = .ok (.ireturn, 1) := by decide +kernel
theorem c_G_turns (w : Wd) (d : Nat) (c : cx) (S : hs) (t ci : Nat) (x : Int32) (hT : Tg c t ci) (h3 : Ok3 S t) : Cl w (d + 1) m_G_turns [.ref t, .int x] (mk c S) (some (.int (x + gI S t 1))) (mk c (bgs S t [10])) := by
  refine Cl.of (mk_le _ _ _).1 (mk_le _ _ _).2 (by decide +kernel) (Nat.le_of_ble_eq_true rfl) ?_
  generalize hN (mk c S) = n0
  generalize hZ (mk c S) = z0
  show J w (d + 1) m_G_turns (n0, z0, some (.int (x + gI S t 1)), mk c (bgs S t [10])) 0 [some (.ref t), some (.int x)] [] (mk c S)
  refine J.run b_G_turns_0_2 k_G_turns_0_2 rfl (show J w (d + 1) m_G_turns (n0, z0, some (.int (x + gI S t 1)), mk c (bgs S t [10])) 3 [some (.ref t), some (.int x)] [.int (10 : Int32), .ref t] (mk c S) from ?_)
  refine J.callU (y := m_G_begin) (o := m_G_begin) (x := (⟨"LeftTown$Thing", "begin", "(I)V"⟩ : MethodName)) (C := cN ci) (av := [.int (10 : Int32)]) (rest := []) (q := t) (lu_G_25 hT.five) d_G_turns_3 (isC_t hT) (c_G_begin w d c S t ci 10 hT h3) rfl (Nat.le_of_ble_eq_true rfl) (mk_le _ _ _) (show J w (d + 1) m_G_turns (n0, z0, some (.int (x + gI S t 1)), mk c (bgs S t [10])) 6 [some (.ref t), some (.int x)] [] (mk c (bgs S t [10])) from ?_)
  refine J.run b_G_turns_6_4 k_G_turns_6_4 rfl (And.intro (okO_t hT) (show J w (d + 1) m_G_turns (n0, z0, some (.int (x + gI S t 1)), mk c (bgs S t [10])) 12 [some (.ref t), some (.int x)] [.int (x + gI (bgs S t [10]) t 1)] (mk c (bgs S t [10])) from ?_))
  rw [bgs_1]
  exact J.iret d_G_turns_12 rfl rfl
def b_G1_turns_0_2 : List Ins := [(.aload_n 0, 0, 0, 0), (.bipush (20), 0, 0, 0)]
theorem k_G1_turns_0_2 : bok m_G1_turns 0 b_G1_turns_0_2 = true := by decide +kernel
theorem d_G1_turns_3 : decode m_G1_turns.2.1 3 = .ok (.invokevirtual 7, 3) := by decide +kernel
def b_G1_turns_6_2 : List Ins := [(.aload_n 0, 0, 0, 0), (.iload_n 1, 0, 0, 0)]
theorem k_G1_turns_6_2 : bok m_G1_turns 6 b_G1_turns_6_2 = true := by decide +kernel
theorem d_G1_turns_8 : decode m_G1_turns.2.1 8 = .ok (.invokespecial 13, 3) := by decide +kernel
def b_G1_turns_11_2 : List Ins := [(.iconst (3), 0, 0, 0), (.imul, 0, 0, 0)]
theorem k_G1_turns_11_2 : bok m_G1_turns 11 b_G1_turns_11_2 = true := by decide +kernel
theorem d_G1_turns_13 : decode m_G1_turns.2.1 13 = .ok (.ireturn, 1) := by decide +kernel
theorem c_G1_turns (w : Wd) (d : Nat) (c : cx) (S : hs) (t : Nat) (x : Int32) (hT : Tg c t 6) (h3 : Ok3 S t) : Cl w (d + 2) m_G1_turns [.ref t, .int x] (mk c S) (some (.int ((x + gI S t 1) * (3 : Int32)))) (mk c (bgs S t [20, 10])) := by
  refine Cl.of (mk_le _ _ _).1 (mk_le _ _ _).2 (by decide +kernel) (Nat.le_of_ble_eq_true rfl) ?_
  generalize hN (mk c S) = n0
  generalize hZ (mk c S) = z0
  show J w (d + 2) m_G1_turns (n0, z0, some (.int ((x + gI S t 1) * (3 : Int32))), mk c (bgs S t [20, 10])) 0 [some (.ref t), some (.int x)] [] (mk c S)
  refine J.run b_G1_turns_0_2 k_G1_turns_0_2 rfl (show J w (d + 2) m_G1_turns (n0, z0, some (.int ((x + gI S t 1) * (3 : Int32))), mk c (bgs S t [20, 10])) 3 [some (.ref t), some (.int x)] [.int (20 : Int32), .ref t] (mk c S) from ?_)
  refine J.callU (y := m_G_begin) (o := m_G_begin) (x := (⟨"LeftTown$On", "begin", "(I)V"⟩ : MethodName)) (C := cN 6) (av := [.int (20 : Int32)]) (rest := []) (q := t) (lu_G1_7 rfl) d_G1_turns_3 (isC_t hT) (c_G_begin w (d + 1) c S t 6 20 hT h3) rfl (Nat.le_of_ble_eq_true rfl) (mk_le _ _ _) (show J w (d + 2) m_G1_turns (n0, z0, some (.int ((x + gI S t 1) * (3 : Int32))), mk c (bgs S t [20, 10])) 6 [some (.ref t), some (.int x)] [] (mk c (bgs S t [20])) from ?_)
  refine J.run b_G1_turns_6_2 k_G1_turns_6_2 rfl (show J w (d + 2) m_G1_turns (n0, z0, some (.int ((x + gI S t 1) * (3 : Int32))), mk c (bgs S t [20, 10])) 8 [some (.ref t), some (.int x)] [.int x, .ref t] (mk c (bgs S t [20])) from ?_)
  have hv := c_G_turns w d c (bgs S t [20]) t 6 x hT (Ok3.bgs [20] h3)
  rw [bgs_1, bgs_app] at hv
  simp only [List.cons_append, List.nil_append] at hv
  refine J.callSU (y := m_G_turns) (x := (⟨"LeftTown$Thing", "turns", "(I)I"⟩ : MethodName)) (C := cN 6) (av := [.int x]) (rest := []) (q := t) ls_G1_13 d_G1_turns_8 (isC_t hT) (hv) rfl (Nat.le_of_ble_eq_true rfl) (mk_le _ _ _) (show J w (d + 2) m_G1_turns (n0, z0, some (.int ((x + gI S t 1) * (3 : Int32))), mk c (bgs S t [20, 10])) 11 [some (.ref t), some (.int x)] [.int (x + gI S t 1)] (mk c (bgs S t [20, 10])) from ?_)
  refine J.run b_G1_turns_11_2 k_G1_turns_11_2 rfl (show J w (d + 2) m_G1_turns (n0, z0, some (.int ((x + gI S t 1) * (3 : Int32))), mk c (bgs S t [20, 10])) 13 [some (.ref t), some (.int x)] [.int ((x + gI S t 1) * (3 : Int32))] (mk c (bgs S t [20, 10])) from ?_)
  exact J.iret d_G1_turns_13 rfl rfl
def b_G3_turns_0_2 : List Ins := [(.aload_n 0, 0, 0, 0), (.bipush (50), 0, 0, 0)]
theorem k_G3_turns_0_2 : bok m_G3_turns 0 b_G3_turns_0_2 = true := by decide +kernel
theorem d_G3_turns_3 : decode m_G3_turns.2.1 3 = .ok (.invokevirtual 7, 3) := by decide +kernel
def b_G3_turns_6_2 : List Ins := [(.aload_n 0, 0, 0, 0), (.iload_n 1, 0, 0, 0)]
theorem k_G3_turns_6_2 : bok m_G3_turns 6 b_G3_turns_6_2 = true := by decide +kernel
theorem d_G3_turns_8 : decode m_G3_turns.2.1 8 = .ok (.invokespecial 13, 3) := by decide +kernel
def b_G3_turns_11_3 : List Ins := [(.aload_n 0, 0, 0, 0), (.getfield 17, 12, 0, 0), (.ixor, 0, 0, 0)]
theorem k_G3_turns_11_3 : bok m_G3_turns 11 b_G3_turns_11_3 = true := by decide +kernel
theorem d_G3_turns_16 : decode m_G3_turns.2.1 16 = .ok (.ireturn, 1) := by decide +kernel
theorem c_G3_turns (w : Wd) (d : Nat) (c : cx) (S : hs) (t : Nat) (x : Int32) (hT : Tg c t 8) (h3 : Ok3 S t) : Cl w (d + 2) m_G3_turns [.ref t, .int x] (mk c S) (some (.int ((x + gI S t 1) ^^^ gI S t 0))) (mk c (bgs S t [50, 10])) := by
  refine Cl.of (mk_le _ _ _).1 (mk_le _ _ _).2 (by decide +kernel) (Nat.le_of_ble_eq_true rfl) ?_
  generalize hN (mk c S) = n0
  generalize hZ (mk c S) = z0
  show J w (d + 2) m_G3_turns (n0, z0, some (.int ((x + gI S t 1) ^^^ gI S t 0)), mk c (bgs S t [50, 10])) 0 [some (.ref t), some (.int x)] [] (mk c S)
  refine J.run b_G3_turns_0_2 k_G3_turns_0_2 rfl (show J w (d + 2) m_G3_turns (n0, z0, some (.int ((x + gI S t 1) ^^^ gI S t 0)), mk c (bgs S t [50, 10])) 3 [some (.ref t), some (.int x)] [.int (50 : Int32), .ref t] (mk c S) from ?_)
  refine J.callU (y := m_G_begin) (o := m_G_begin) (x := (⟨"LeftTown$Sharp", "begin", "(I)V"⟩ : MethodName)) (C := cN 8) (av := [.int (50 : Int32)]) (rest := []) (q := t) (lu_G3_7 rfl) d_G3_turns_3 (isC_t hT) (c_G_begin w (d + 1) c S t 8 50 hT h3) rfl (Nat.le_of_ble_eq_true rfl) (mk_le _ _ _) (show J w (d + 2) m_G3_turns (n0, z0, some (.int ((x + gI S t 1) ^^^ gI S t 0)), mk c (bgs S t [50, 10])) 6 [some (.ref t), some (.int x)] [] (mk c (bgs S t [50])) from ?_)
  refine J.run b_G3_turns_6_2 k_G3_turns_6_2 rfl (show J w (d + 2) m_G3_turns (n0, z0, some (.int ((x + gI S t 1) ^^^ gI S t 0)), mk c (bgs S t [50, 10])) 8 [some (.ref t), some (.int x)] [.int x, .ref t] (mk c (bgs S t [50])) from ?_)
  have hv := c_G_turns w d c (bgs S t [50]) t 8 x hT (Ok3.bgs [50] h3)
  rw [bgs_1, bgs_app] at hv
  simp only [List.cons_append, List.nil_append] at hv
  refine J.callSU (y := m_G_turns) (x := (⟨"LeftTown$Left", "turns", "(I)I"⟩ : MethodName)) (C := cN 8) (av := [.int x]) (rest := []) (q := t) ls_G3_13 d_G3_turns_8 (isC_t hT) (hv) rfl (Nat.le_of_ble_eq_true rfl) (mk_le _ _ _) (show J w (d + 2) m_G3_turns (n0, z0, some (.int ((x + gI S t 1) ^^^ gI S t 0)), mk c (bgs S t [50, 10])) 11 [some (.ref t), some (.int x)] [.int (x + gI S t 1)] (mk c (bgs S t [50, 10])) from ?_)
  refine J.run b_G3_turns_11_3 k_G3_turns_11_3 rfl (And.intro (okO_t hT) (show J w (d + 2) m_G3_turns (n0, z0, some (.int ((x + gI S t 1) ^^^ gI S t 0)), mk c (bgs S t [50, 10])) 16 [some (.ref t), some (.int x)] [.int ((x + gI S t 1) ^^^ gI (bgs S t [50, 10]) t 0)] (mk c (bgs S t [50, 10])) from ?_))
  rw [bgs_0]
  exact J.iret d_G3_turns_16 rfl rfl
theorem cv_turns (w : Wd) (d : Nat) (c : cx) (S : hs) (t ci : Nat) (x : Int32) (hT : Tg c t ci) (h3 : Ok3 S t) : Cl w (d + 2) (mTu ci) [.ref t, .int x] (mk c S) (some (.int (vTu ci (gI S t 0) (gI S t 1) x))) (mk c (bgs S t (bTu ci))) := by
  rcases hT.five with rfl | rfl | rfl | rfl | rfl
  · exact c_G1_turns w d c S t x hT h3
  · exact c_G_turns w (d + 1) c S t 7 x hT h3
  · exact c_G3_turns w d c S t x hT h3
  · exact c_G_turns w (d + 1) c S t 9 x hT h3
  · exact c_G_turns w (d + 1) c S t 10 x hT h3
