/-! Model: act -/
def fx_bf : Nat → hs → Int32 → Int32 → Int32 → Option (Int32 × hs)
  | 0, _, _, _, _ => none
  | n + 1, S, x1, x2, x3 => f_M_bodyFrom (fx_bf n) S x1 x2 x3
theorem bf_T (w : Wd) (c : cx) : ∀ (n D : Nat), 12 * n ≤ D → ∀ (S : hs) (x1 : Int32) (x2 : Int32) (x3 : Int32) (z : Int32 × hs), fx_bf n S x1 x2 x3 = some z → Cl w D m_M_bodyFrom [.ref 191, .int x1, .int x2, .int x3] (mk c S) (some (.int z.1)) (mk c z.2)
  | 0, _, _, _, _, _, _, z, H => by cases H
  | n + 1, D, hD, S, x1, x2, x3, z, H => by
    obtain ⟨e, rfl⟩ : ∃ e, D = e + 6 := ⟨D - 6, by omega⟩
    exact c_M_bodyFrom w e c (fun D' h' => bf_T w c n D' (by omega)) S x1 x2 x3 H
theorem bf_close (w : Wd) (d : Nat) (hd : 240 ≤ d) (c : cx) : ∀ (D : Nat), d ≤ D → ∀ (S : hs) (x1 : Int32) (x2 : Int32) (x3 : Int32) (z : Int32 × hs), fx_bf 20 S x1 x2 x3 = some z → Cl w D m_M_bodyFrom [.ref 191, .int x1, .int x2, .int x3] (mk c S) (some (.int z.1)) (mk c z.2) :=
  fun D h => bf_T w c 20 D (by omega)

def b_M_act_0_6 : List Ins := [(.aload_n 0, 0, 0, 0), (.iconst (0), 0, 0, 0), (.putfield 333, 11, 31, 0), (.iload_n 1, 0, 0, 0), (.iconst (0), 0, 0, 0), (.iconst (3), 0, 0, 0)]
theorem k_M_act_0_6 : bok m_M_act 0 b_M_act_0_6 = true := by decide +kernel
def b_M_act_32_1 : List Ins := [(.iconst (0), 0, 0, 0)]
theorem k_M_act_32_1 : bok m_M_act 32 b_M_act_32_1 = true := by decide +kernel
def b_M_act_14_3 : List Ins := [(.iload_n 2, 0, 0, 0), (.iconst (0), 0, 0, 0), (.iconst (3), 0, 0, 0)]
theorem k_M_act_14_3 : bok m_M_act 14 b_M_act_14_3 = true := by decide +kernel
def b_M_act_23_2 : List Ins := [(.aload_n 0, 0, 0, 0), (.iload_n 1, 0, 0, 0)]
theorem k_M_act_23_2 : bok m_M_act 23 b_M_act_23_2 = true := by decide +kernel
def b_M_act_28_1 : List Ins := [(.iconst (1), 0, 0, 0)]
theorem k_M_act_28_1 : bok m_M_act 28 b_M_act_28_1 = true := by decide +kernel
def b_M_act_34_22 : List Ins := [(.aload_n 0, 0, 0, 0), (.aload_n 0, 0, 0, 0), (.getfield 96, 11, 28, 2), (.iload_n 1, 0, 0, 0), (.iaload, 0, 0, 0), (.bipush (40), 0, 0, 0), (.idiv, 0, 0, 0), (.putfield 336, 11, 32, 0), (.aload_n 0, 0, 0, 0), (.aload_n 0, 0, 0, 0), (.getfield 96, 11, 28, 2), (.iload_n 1, 0, 0, 0), (.iaload, 0, 0, 0), (.bipush (40), 0, 0, 0), (.irem, 0, 0, 0), (.putfield 339, 11, 33, 0), (.aload_n 0, 0, 0, 0), (.iconst (0), 0, 0, 0), (.putfield 349, 11, 34, 3), (.aload_n 0, 0, 0, 0), (.iload_n 2, 0, 0, 0), (.iload_n 3, 0, 0, 0)]
theorem k_M_act_34_22 : bok m_M_act 34 b_M_act_34_22 = true := by decide +kernel
def b_M_act_71_3 : List Ins := [(.istore 4, 0, 0, 0), (.aload_n 0, 0, 0, 0), (.getfield 349, 11, 34, 0)]
theorem k_M_act_71_3 : bok m_M_act 71 b_M_act_71_3 = true := by decide +kernel
def b_M_act_85_1 : List Ins := [(.iload 4, 0, 0, 0)]
theorem k_M_act_85_1 : bok m_M_act 85 b_M_act_85_1 = true := by decide +kernel
def b_M_act_80_1 : List Ins := [(.bipush (-15), 0, 0, 0)]
theorem k_M_act_80_1 : bok m_M_act 80 b_M_act_80_1 = true := by decide +kernel
theorem d_M_act_8 : decode m_M_act.2.1 8 = .ok (.invokestatic 105, 3) := by decide +kernel
theorem d_M_act_11 : decode m_M_act.2.1 11 = .ok (.ifCond .eq (21), 3) := by decide +kernel
theorem d_M_act_33 : decode m_M_act.2.1 33 = .ok (.ireturn, 1) := by decide +kernel
theorem d_M_act_17 : decode m_M_act.2.1 17 = .ok (.invokestatic 105, 3) := by decide +kernel
theorem d_M_act_20 : decode m_M_act.2.1 20 = .ok (.ifCond .eq (12), 3) := by decide +kernel
theorem d_M_act_25 : decode m_M_act.2.1 25 = .ok (.invokevirtual 330, 3) := by decide +kernel
theorem d_M_act_29 : decode m_M_act.2.1 29 = .ok (.if_icmp .eq (5), 3) := by decide +kernel
theorem d_M_act_68 : decode m_M_act.2.1 68 = .ok (.invokevirtual 358, 3) := by decide +kernel
theorem d_M_act_77 : decode m_M_act.2.1 77 = .ok (.ifCond .eq (8), 3) := by decide +kernel
theorem d_M_act_87 : decode m_M_act.2.1 87 = .ok (.ireturn, 1) := by decide +kernel
theorem d_M_act_82 : decode m_M_act.2.1 82 = .ok (.goto (5), 3) := by decide +kernel
def f_M_act  (S : hs) (x1 : Int32) (x2 : Int32) (x3 : Int32) : Option (Int32 × hs) := bd (f_M_in  (uI S 191 31 (0 : Int32)) x1 (0 : Int32) (3 : Int32)) fun r1 S2 => (if r1 = 0 then some ((0 : Int32), S2) else bd (f_M_in  S2 x2 (0 : Int32) (3 : Int32)) fun r5 S6 => (if r5 = 0 then some ((0 : Int32), S6) else bd (f_M_onShelf  S6 x1) fun r9 S10 => (if r9 = (1 : Int32) then ck (inb x1 4) (bd (f_M_voiced (fx_bf 20) (uI (uI (uI S10 191 32 ((gI S10 210 (x1).toNatClampNeg) / (40 : Int32))) 191 33 ((gI (uI S10 191 32 ((gI S10 210 (x1).toNatClampNeg) / (40 : Int32))) 210 (x1).toNatClampNeg) - (gI (uI S10 191 32 ((gI S10 210 (x1).toNatClampNeg) / (40 : Int32))) 210 (x1).toNatClampNeg) / (40 : Int32) * (40 : Int32))) 191 34 (0 : Int32)) x2 x3) fun r14 S15 => (if (gI S15 191 34) = 0 then some (r14, S15) else some ((-15 : Int32), S15))) else some ((0 : Int32), S10))))
theorem c_M_act (w : Wd) (d : Nat) (c : cx)   (S : hs) (x1 : Int32) (x2 : Int32) (x3 : Int32)  {z : Int32 × hs} (H : f_M_act S x1 x2 x3 = some z) : Cl w (d + 245) m_M_act [.ref 191, .int x1, .int x2, .int x3] (mk c S) (some (.int z.1)) (mk c z.2) := by
  refine Cl.of (Nat.le_refl _) (Nat.le_refl _) (by decide +kernel) (Nat.le_of_ble_eq_true rfl) ?_
  unfold f_M_act at H
  generalize hN (mk c S) = n0
  generalize hZ (mk c S) = z0
  show J w (d + 245) m_M_act (n0, z0, some (.int z.1), mk c z.2) 0 [some (.ref 191), some (.int x1), some (.int x2), some (.int x3), none] [] (mk c S)
  refine J.run b_M_act_0_6 k_M_act_0_6 rfl (And.intro (okO_st (S := S) rfl) (show J w (d + 245) m_M_act (n0, z0, some (.int z.1), mk c z.2) 8 [some (.ref 191), some (.int x1), some (.int x2), some (.int x3), none] [.int (3 : Int32), .int (0 : Int32), .int x1] (mk c (uI S 191 31 (0 : Int32))) from ?_))
  obtain ⟨r1, S2, h3, H⟩ := bd_e H
  refine J.callS (y := m_M_in) (av := [.int x1, .int (0 : Int32), .int (3 : Int32)]) (rest := []) l_M_105 d_M_act_8 (c_M_in w (d + 243) c  (uI S 191 31 (0 : Int32)) x1 (0 : Int32) (3 : Int32) h3) rfl (Nat.le_of_ble_eq_true rfl) ⟨Nat.le_refl _, Nat.le_refl _⟩ (show J w (d + 245) m_M_act (n0, z0, some (.int z.1), mk c z.2) 11 [some (.ref 191), some (.int x1), some (.int x2), some (.int x3), none] [.int r1] (mk c S2) from ?_)
  refine J.zeq (tgt := 32) d_M_act_11 rfl (fun q4 => ?_) (fun q4 => ?_)
  · have H := ite_t H q4
    refine J.run b_M_act_32_1 k_M_act_32_1 rfl (show J w (d + 245) m_M_act (n0, z0, some (.int z.1), mk c z.2) 33 [some (.ref 191), some (.int x1), some (.int x2), some (.int x3), none] [.int (0 : Int32)] (mk c S2) from ?_)
    obtain rfl := some_e H
    exact J.iret d_M_act_33 rfl rfl
  · have H := ite_f H q4
    refine J.run b_M_act_14_3 k_M_act_14_3 rfl (show J w (d + 245) m_M_act (n0, z0, some (.int z.1), mk c z.2) 17 [some (.ref 191), some (.int x1), some (.int x2), some (.int x3), none] [.int (3 : Int32), .int (0 : Int32), .int x2] (mk c S2) from ?_)
    obtain ⟨r5, S6, h7, H⟩ := bd_e H
    refine J.callS (y := m_M_in) (av := [.int x2, .int (0 : Int32), .int (3 : Int32)]) (rest := []) l_M_105 d_M_act_17 (c_M_in w (d + 243) c  S2 x2 (0 : Int32) (3 : Int32) h7) rfl (Nat.le_of_ble_eq_true rfl) ⟨Nat.le_refl _, Nat.le_refl _⟩ (show J w (d + 245) m_M_act (n0, z0, some (.int z.1), mk c z.2) 20 [some (.ref 191), some (.int x1), some (.int x2), some (.int x3), none] [.int r5] (mk c S6) from ?_)
    refine J.zeq (tgt := 32) d_M_act_20 rfl (fun q8 => ?_) (fun q8 => ?_)
    · have H := ite_t H q8
      refine J.run b_M_act_32_1 k_M_act_32_1 rfl (show J w (d + 245) m_M_act (n0, z0, some (.int z.1), mk c z.2) 33 [some (.ref 191), some (.int x1), some (.int x2), some (.int x3), none] [.int (0 : Int32)] (mk c S6) from ?_)
      obtain rfl := some_e H
      exact J.iret d_M_act_33 rfl rfl
    · have H := ite_f H q8
      refine J.run b_M_act_23_2 k_M_act_23_2 rfl (show J w (d + 245) m_M_act (n0, z0, some (.int z.1), mk c z.2) 25 [some (.ref 191), some (.int x1), some (.int x2), some (.int x3), none] [.int x1, .ref 191] (mk c S6) from ?_)
      obtain ⟨r9, S10, h11, H⟩ := bd_e H
      refine J.callV (y := m_M_onShelf) (av := [.int x1]) (rest := []) (q := 191) l_M_330 d_M_act_25 (isC_st rfl rfl) (c_M_onShelf w (d + 240) c  S6 x1 h11) rfl (Nat.le_of_ble_eq_true rfl) ⟨Nat.le_refl _, Nat.le_refl _⟩ (show J w (d + 245) m_M_act (n0, z0, some (.int z.1), mk c z.2) 28 [some (.ref 191), some (.int x1), some (.int x2), some (.int x3), none] [.int r9] (mk c S10) from ?_)
      refine J.run b_M_act_28_1 k_M_act_28_1 rfl (show J w (d + 245) m_M_act (n0, z0, some (.int z.1), mk c z.2) 29 [some (.ref 191), some (.int x1), some (.int x2), some (.int x3), none] [.int (1 : Int32), .int r9] (mk c S10) from ?_)
      refine J.ceq (tgt := 34) d_M_act_29 rfl (fun q12 => ?_) (fun q12 => ?_)
      · have H := ite_t H q12
        obtain ⟨g13, H⟩ := ck_e H
        refine J.run b_M_act_34_22 k_M_act_34_22 rfl (And.intro (okO_st (S := S10) rfl) (And.intro (okA_st (S := S10) (n := 4) rfl g13) (And.intro (by decide) (And.intro (okO_st (S := S10) rfl) (And.intro (okO_st (S := (uI S10 191 32 ((gI S10 210 (x1).toNatClampNeg) / (40 : Int32)))) rfl) (And.intro (okA_st (S := (uI S10 191 32 ((gI S10 210 (x1).toNatClampNeg) / (40 : Int32)))) (n := 4) rfl g13) (And.intro (by decide) (And.intro (okO_st (S := (uI S10 191 32 ((gI S10 210 (x1).toNatClampNeg) / (40 : Int32)))) rfl) (And.intro (okO_st (S := (uI (uI S10 191 32 ((gI S10 210 (x1).toNatClampNeg) / (40 : Int32))) 191 33 ((gI (uI S10 191 32 ((gI S10 210 (x1).toNatClampNeg) / (40 : Int32))) 210 (x1).toNatClampNeg) - (gI (uI S10 191 32 ((gI S10 210 (x1).toNatClampNeg) / (40 : Int32))) 210 (x1).toNatClampNeg) / (40 : Int32) * (40 : Int32)))) rfl) (And.intro (by decide) (show J w (d + 245) m_M_act (n0, z0, some (.int z.1), mk c z.2) 68 [some (.ref 191), some (.int x1), some (.int x2), some (.int x3), none] [.int x3, .int x2, .ref 191] (mk c (uI (uI (uI S10 191 32 ((gI S10 210 (x1).toNatClampNeg) / (40 : Int32))) 191 33 ((gI (uI S10 191 32 ((gI S10 210 (x1).toNatClampNeg) / (40 : Int32))) 210 (x1).toNatClampNeg) - (gI (uI S10 191 32 ((gI S10 210 (x1).toNatClampNeg) / (40 : Int32))) 210 (x1).toNatClampNeg) / (40 : Int32) * (40 : Int32))) 191 34 (0 : Int32))) from ?_)))))))))))
        obtain ⟨r14, S15, h16, H⟩ := bd_e H
        refine J.callV (y := m_M_voiced) (av := [.int x2, .int x3]) (rest := []) (q := 191) l_M_358 d_M_act_68 (isC_st rfl rfl) (c_M_voiced w (d + 240) c (bf_close w (d + 240) (by omega) c) (uI (uI (uI S10 191 32 ((gI S10 210 (x1).toNatClampNeg) / (40 : Int32))) 191 33 ((gI (uI S10 191 32 ((gI S10 210 (x1).toNatClampNeg) / (40 : Int32))) 210 (x1).toNatClampNeg) - (gI (uI S10 191 32 ((gI S10 210 (x1).toNatClampNeg) / (40 : Int32))) 210 (x1).toNatClampNeg) / (40 : Int32) * (40 : Int32))) 191 34 (0 : Int32)) x2 x3 h16) rfl (Nat.le_of_ble_eq_true rfl) ⟨Nat.le_refl _, Nat.le_refl _⟩ (show J w (d + 245) m_M_act (n0, z0, some (.int z.1), mk c z.2) 71 [some (.ref 191), some (.int x1), some (.int x2), some (.int x3), none] [.int r14] (mk c S15) from ?_)
        refine J.run b_M_act_71_3 k_M_act_71_3 rfl (And.intro (okO_st (S := S15) rfl) (show J w (d + 245) m_M_act (n0, z0, some (.int z.1), mk c z.2) 77 [some (.ref 191), some (.int x1), some (.int x2), some (.int x3), some (.int r14)] [.int (gI S15 191 34)] (mk c S15) from ?_))
        refine J.zeq (tgt := 85) d_M_act_77 rfl (fun q17 => ?_) (fun q17 => ?_)
        · have H := ite_t H q17
          refine J.run b_M_act_85_1 k_M_act_85_1 rfl (show J w (d + 245) m_M_act (n0, z0, some (.int z.1), mk c z.2) 87 [some (.ref 191), some (.int x1), some (.int x2), some (.int x3), some (.int r14)] [.int r14] (mk c S15) from ?_)
          obtain rfl := some_e H
          exact J.iret d_M_act_87 rfl rfl
        · have H := ite_f H q17
          refine J.run b_M_act_80_1 k_M_act_80_1 rfl (show J w (d + 245) m_M_act (n0, z0, some (.int z.1), mk c z.2) 82 [some (.ref 191), some (.int x1), some (.int x2), some (.int x3), some (.int r14)] [.int (-15 : Int32)] (mk c S15) from ?_)
          refine J.goto (tgt := 87) d_M_act_82 rfl ?_
          obtain rfl := some_e H
          exact J.iret d_M_act_87 rfl rfl
      · have H := ite_f H q12
        refine J.run b_M_act_32_1 k_M_act_32_1 rfl (show J w (d + 245) m_M_act (n0, z0, some (.int z.1), mk c z.2) 33 [some (.ref 191), some (.int x1), some (.int x2), some (.int x3), none] [.int (0 : Int32)] (mk c S10) from ?_)
        obtain rfl := some_e H
        exact J.iret d_M_act_33 rfl rfl
