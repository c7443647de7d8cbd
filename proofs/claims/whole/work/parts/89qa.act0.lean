/-! act, where there is no thing. -/
theorem c_X_actN (w : Wd) (d : Nat) (k : cx) (S : hs) (x1 x2 x3 : Int32) (h1 : f_H_hasShelf S x1 = some (0, S)) : Cl w (d + 7) m_X_act [.ref 33, .int x1, .int x2, .int x3] (mk k S) (some (.int (0 : Int32))) (mk (kLt k none) S) := by
  refine Cl.of le_L.1 le_L.2 (by decide +kernel) (Nat.le_of_ble_eq_true rfl) ?_
  generalize hN (mk k S) = n0
  generalize hZ (mk k S) = z0
  show J w (d + 7) m_X_act (n0, z0, some (.int (0 : Int32)), (mk (kLt k none) S)) 0 [some (.ref 33), some (.int x1), some (.int x2), some (.int x3)] [] (mk k S)
  refine J.run b_X_act_0_3 k_X_act_0_3 rfl (And.intro (okO_st rfl) (show J w (d + 7) m_X_act (n0, z0, some (.int (0 : Int32)), (mk (kLt k none) S)) 5 [some (.ref 33), some (.int x1), some (.int x2), some (.int x3)] [] (sR (mk k S) 33 8 none) from ?_))
  rw [sR_L]
  refine J.run b_X_act_5_3 k_X_act_5_3 rfl (And.intro (okO_st rfl) (show J w (d + 7) m_X_act (n0, z0, some (.int (0 : Int32)), (mk (kLt k none) S)) 10 [some (.ref 33), some (.int x1), some (.int x2), some (.int x3)] [.int x1, .ref 159] (mk (kLt k none) S) from ?_))
  refine J.callV (y := m_H_hasShelf) (av := [.int x1]) (rest := []) (q := 159) l_X_266 d_X_act_10 (isC_st rfl rfl) (c_H_hasShelf w (d + 5) (kLt k none) S x1 h1) rfl (Nat.le_of_ble_eq_true rfl) ⟨Nat.le_refl _, Nat.le_refl _⟩ (show J w (d + 7) m_X_act (n0, z0, some (.int (0 : Int32)), (mk (kLt k none) S)) 13 [some (.ref 33), some (.int x1), some (.int x2), some (.int x3)] [.int (0 : Int32)] (mk (kLt k none) S) from ?_)
  refine J.zeq (tgt := 25) d_X_act_13 rfl (fun _ => ?_) (fun q => absurd rfl q)
  refine J.run b_X_act_25_1 k_X_act_25_1 rfl (show J w (d + 7) m_X_act (n0, z0, some (.int (0 : Int32)), (mk (kLt k none) S)) 26 [some (.ref 33), some (.int x1), some (.int x2), some (.int x3)] [.int (0 : Int32)] (mk (kLt k none) S) from ?_)
  exact J.iret d_X_act_26 rfl rfl
theorem c_X_actB (w : Wd) (d : Nat) (k : cx) (S : hs) (x1 x2 x3 : Int32) (h1 : f_H_hasShelf S x1 = some (1, S)) (h2 : ¬ (0 ≤ x2.toInt ∧ x2.toInt ≤ 3)) : Cl w (d + 7) m_X_act [.ref 33, .int x1, .int x2, .int x3] (mk k S) (some (.int (0 : Int32))) (mk (kLt k none) S) := by
  refine Cl.of le_L.1 le_L.2 (by decide +kernel) (Nat.le_of_ble_eq_true rfl) ?_
  generalize hN (mk k S) = n0
  generalize hZ (mk k S) = z0
  show J w (d + 7) m_X_act (n0, z0, some (.int (0 : Int32)), (mk (kLt k none) S)) 0 [some (.ref 33), some (.int x1), some (.int x2), some (.int x3)] [] (mk k S)
  refine J.run b_X_act_0_3 k_X_act_0_3 rfl (And.intro (okO_st rfl) (show J w (d + 7) m_X_act (n0, z0, some (.int (0 : Int32)), (mk (kLt k none) S)) 5 [some (.ref 33), some (.int x1), some (.int x2), some (.int x3)] [] (sR (mk k S) 33 8 none) from ?_))
  rw [sR_L]
  refine J.run b_X_act_5_3 k_X_act_5_3 rfl (And.intro (okO_st rfl) (show J w (d + 7) m_X_act (n0, z0, some (.int (0 : Int32)), (mk (kLt k none) S)) 10 [some (.ref 33), some (.int x1), some (.int x2), some (.int x3)] [.int x1, .ref 159] (mk (kLt k none) S) from ?_))
  refine J.callV (y := m_H_hasShelf) (av := [.int x1]) (rest := []) (q := 159) l_X_266 d_X_act_10 (isC_st rfl rfl) (c_H_hasShelf w (d + 5) (kLt k none) S x1 h1) rfl (Nat.le_of_ble_eq_true rfl) ⟨Nat.le_refl _, Nat.le_refl _⟩ (show J w (d + 7) m_X_act (n0, z0, some (.int (0 : Int32)), (mk (kLt k none) S)) 13 [some (.ref 33), some (.int x1), some (.int x2), some (.int x3)] [.int (1 : Int32)] (mk (kLt k none) S) from ?_)
  refine J.zeq (tgt := 25) d_X_act_13 rfl (fun q => absurd q (by decide)) (fun _ => ?_)
  refine J.run b_X_act_16_1 k_X_act_16_1 rfl (show J w (d + 7) m_X_act (n0, z0, some (.int (0 : Int32)), (mk (kLt k none) S)) 17 [some (.ref 33), some (.int x1), some (.int x2), some (.int x3)] [.int x2] (mk (kLt k none) S) from ?_)
  refine J.zlt (tgt := 25) d_X_act_17 rfl (fun _ => ?_) (fun q => ?_)
  · skip
    refine J.run b_X_act_25_1 k_X_act_25_1 rfl (show J w (d + 7) m_X_act (n0, z0, some (.int (0 : Int32)), (mk (kLt k none) S)) 26 [some (.ref 33), some (.int x1), some (.int x2), some (.int x3)] [.int (0 : Int32)] (mk (kLt k none) S) from ?_)
    exact J.iret d_X_act_26 rfl rfl
  · refine J.run b_X_act_20_2 k_X_act_20_2 rfl (show J w (d + 7) m_X_act (n0, z0, some (.int (0 : Int32)), (mk (kLt k none) S)) 22 [some (.ref 33), some (.int x1), some (.int x2), some (.int x3)] [.int (3 : Int32), .int x2] (mk (kLt k none) S) from ?_)
    refine J.cle (tgt := 27) d_X_act_22 rfl (fun q2 => ?_) (fun _ => ?_)
    · exfalso; refine h2 ⟨?_, Int32.le_iff_toInt_le.mp q2⟩; exact Int.not_lt.mp (fun z => q (Int32.lt_iff_toInt_lt.mpr z))
    · skip
      refine J.run b_X_act_25_1 k_X_act_25_1 rfl (show J w (d + 7) m_X_act (n0, z0, some (.int (0 : Int32)), (mk (kLt k none) S)) 26 [some (.ref 33), some (.int x1), some (.int x2), some (.int x3)] [.int (0 : Int32)] (mk (kLt k none) S) from ?_)
      exact J.iret d_X_act_26 rfl rfl
theorem c_X_act0 (w : Wd) (d : Nat) (k : cx) (S : hs) (x1 x2 x3 : Int32) (h1 : f_H_hasShelf S x1 = some (1, S)) (h2 : 0 ≤ x2.toInt ∧ x2.toInt ≤ 3) (h4 : inb x1 4 = true) (h3 : f_X_kindOnShelf S x1 = some ((-1 : Int32), S)) : Cl w (d + 7) m_X_act [.ref 33, .int x1, .int x2, .int x3] (mk k S) (some (.int (0 : Int32))) (mk (kLt k none) S) := by
  refine Cl.of le_L.1 le_L.2 (by decide +kernel) (Nat.le_of_ble_eq_true rfl) ?_
  generalize hN (mk k S) = n0
  generalize hZ (mk k S) = z0
  show J w (d + 7) m_X_act (n0, z0, some (.int (0 : Int32)), (mk (kLt k none) S)) 0 [some (.ref 33), some (.int x1), some (.int x2), some (.int x3)] [] (mk k S)
  refine J.run b_X_act_0_3 k_X_act_0_3 rfl (And.intro (okO_st rfl) (show J w (d + 7) m_X_act (n0, z0, some (.int (0 : Int32)), (mk (kLt k none) S)) 5 [some (.ref 33), some (.int x1), some (.int x2), some (.int x3)] [] (sR (mk k S) 33 8 none) from ?_))
  rw [sR_L]
  refine J.run b_X_act_5_3 k_X_act_5_3 rfl (And.intro (okO_st rfl) (show J w (d + 7) m_X_act (n0, z0, some (.int (0 : Int32)), (mk (kLt k none) S)) 10 [some (.ref 33), some (.int x1), some (.int x2), some (.int x3)] [.int x1, .ref 159] (mk (kLt k none) S) from ?_))
  refine J.callV (y := m_H_hasShelf) (av := [.int x1]) (rest := []) (q := 159) l_X_266 d_X_act_10 (isC_st rfl rfl) (c_H_hasShelf w (d + 5) (kLt k none) S x1 h1) rfl (Nat.le_of_ble_eq_true rfl) ⟨Nat.le_refl _, Nat.le_refl _⟩ (show J w (d + 7) m_X_act (n0, z0, some (.int (0 : Int32)), (mk (kLt k none) S)) 13 [some (.ref 33), some (.int x1), some (.int x2), some (.int x3)] [.int (1 : Int32)] (mk (kLt k none) S) from ?_)
  refine J.zeq (tgt := 25) d_X_act_13 rfl (fun q => absurd q (by decide)) (fun _ => ?_)
  refine J.run b_X_act_16_1 k_X_act_16_1 rfl (show J w (d + 7) m_X_act (n0, z0, some (.int (0 : Int32)), (mk (kLt k none) S)) 17 [some (.ref 33), some (.int x1), some (.int x2), some (.int x3)] [.int x2] (mk (kLt k none) S) from ?_)
  refine J.zlt (tgt := 25) d_X_act_17 rfl (fun q => absurd h2.1 (Int.not_le.mpr (Int32.lt_iff_toInt_lt.mp q))) (fun _ => ?_)
  refine J.run b_X_act_20_2 k_X_act_20_2 rfl (show J w (d + 7) m_X_act (n0, z0, some (.int (0 : Int32)), (mk (kLt k none) S)) 22 [some (.ref 33), some (.int x1), some (.int x2), some (.int x3)] [.int (3 : Int32), .int x2] (mk (kLt k none) S) from ?_)
  refine J.cle (tgt := 27) d_X_act_22 rfl (fun _ => ?_) (fun q => absurd (Int32.le_iff_toInt_le.mpr h2.2) q)
  refine J.run b_X_act_27_3 k_X_act_27_3 rfl (show J w (d + 7) m_X_act (n0, z0, some (.int (0 : Int32)), (mk (kLt k none) S)) 30 [some (.ref 33), some (.int x1), some (.int x2), some (.int x3)] [.int x1, .ref 33, .ref 33] (mk (kLt k none) S) from ?_)
  refine J.callV (y := m_X_kindOnShelf) (av := [.int x1]) (rest := [.ref 33]) (q := 33) l_X_289 d_X_act_30 (isC_st rfl rfl) (c_X_kindOnShelf w (d + 1) (kLt k none) S x1 h3) rfl (Nat.le_of_ble_eq_true rfl) ⟨Nat.le_refl _, Nat.le_refl _⟩ (show J w (d + 7) m_X_act (n0, z0, some (.int (0 : Int32)), (mk (kLt k none) S)) 33 [some (.ref 33), some (.int x1), some (.int x2), some (.int x3)] [.int (-1 : Int32), .ref 33] (mk (kLt k none) S) from ?_)
  refine J.run b_X_act_33_10 k_X_act_33_10 rfl (And.intro (okO_st rfl) (And.intro (okO_st rfl) (And.intro (okA_st (n := 4) rfl h4) (And.intro (okO_st rfl) (And.intro (okO_st rfl) (And.intro (okA_st (n := 4) rfl h4) (show J w (d + 7) m_X_act (n0, z0, some (.int (0 : Int32)), (mk (kLt k none) S)) 51 [some (.ref 33), some (.int x1), some (.int x2), some (.int x3)] [.int (gI S 169 (x1).toNatClampNeg), .int (gI S 168 (x1).toNatClampNeg), .int (-1 : Int32), .ref 33] (mk (kLt k none) S) from ?_)))))))
  refine J.callS (y := m_X_thingOf) (av := [.int (-1 : Int32), .int (gI S 168 (x1).toNatClampNeg), .int (gI S 169 (x1).toNatClampNeg)]) (rest := [.ref 33]) l_X_295 d_X_act_51 (c_X_thing0 w (d + 2) (kLt k none) S _ _) rfl (Nat.le_of_ble_eq_true rfl) ⟨Nat.le_refl _, Nat.le_refl _⟩ (show J w (d + 7) m_X_act (n0, z0, some (.int (0 : Int32)), (mk (kLt k none) S)) 54 [some (.ref 33), some (.int x1), some (.int x2), some (.int x3)] [.null, .ref 33] (mk (kLt k none) S) from ?_)
  refine J.run b_X_act_54_1 k_X_act_54_1 rfl (And.intro (okO_st rfl) (show J w (d + 7) m_X_act (n0, z0, some (.int (0 : Int32)), (mk (kLt k none) S)) 57 [some (.ref 33), some (.int x1), some (.int x2), some (.int x3)] [] (sR (mk (kLt k none) S) 33 8 none) from ?_))
  rw [sR_L]
  show J w (d + 7) m_X_act (n0, z0, some (.int (0 : Int32)), (mk (kLt k none) S)) 57 [some (.ref 33), some (.int x1), some (.int x2), some (.int x3)] [] (mk (kLt k none) S)
  refine J.run b_X_act_57_2 k_X_act_57_2 rfl (And.intro (okO_st rfl) (show J w (d + 7) m_X_act (n0, z0, some (.int (0 : Int32)), (mk (kLt k none) S)) 61 [some (.ref 33), some (.int x1), some (.int x2), some (.int x3)] [.null] (mk (kLt k none) S) from ?_))
  refine J.nnN d_X_act_61 ?_
  refine J.run b_X_act_64_1 k_X_act_64_1 rfl (show J w (d + 7) m_X_act (n0, z0, some (.int (0 : Int32)), (mk (kLt k none) S)) 65 [some (.ref 33), some (.int x1), some (.int x2), some (.int x3)] [.int (0 : Int32)] (mk (kLt k none) S) from ?_)
  exact J.iret d_X_act_65 rfl rfl
