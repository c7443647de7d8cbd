/-! act, trace and many: the class's calls that see things. -/
theorem tR_o {a b : Option Nat} {r j : Nat} (h : r ≠ 33) : tR a r j = tR b r j := by
  unfold tR
  cases h1 : Nat.blt r 122
  · rfl
  · cases h2 : Nat.blt r 74
    · rfl
    · cases h3 : Nat.blt r 36
      · rfl
      · cases h4 : Nat.blt r 34
        · rfl
        · cases h5 : Nat.blt r 33
          · exfalso
            have := blt_e h4
            have h6 : ¬ r < 33 := fun q => by rw [show Nat.blt r 33 = true from Nat.ble_eq_true_of_le q] at h5; cases h5
            omega
          · rfl
theorem sR_L {k : cx} {S : hs} {v : Option Nat} : sR (mk k S) 33 8 v = mk (kLt k v) S := by
  show ((213 + 2 * k.1, 4364 + 34 * k.1), K0 k, S.1, S.2, up2 (R0 k) 33 8 v) = ((213 + 2 * k.1, 4364 + 34 * k.1), K0 k, S.1, S.2, R0 (kLt k v))
  have e : up2 (R0 k) 33 8 v = R0 (kLt k v) := by
    funext r j
    by_cases h : r = 33
    · subst h
      by_cases q : j = 8
      · subst q; rw [up2_s]; rfl
      · rw [up2_n q]
        show tR k.2.2.2 33 j = tR v 33 j
        match j, q with
        | 0, _ => rfl
        | 1, _ => rfl
        | 2, _ => rfl
        | 3, _ => rfl
        | 4, _ => rfl
        | 5, _ => rfl
        | 6, _ => rfl
        | 7, _ => rfl
        | 8, q => exact absurd rfl q
        | j + 9, _ => rfl
    · rw [up2_o h]
      unfold R0
      rw [tR_o (a := k.2.2.2) (b := (kLt k v).2.2.2) h]
  rw [e]
theorem le_L {k : cx} {S S' : hs} {v : Option Nat} : hN (mk k S) ≤ hN (mk (kLt k v) S') ∧ hZ (mk k S) ≤ hZ (mk (kLt k v) S') := ⟨Nat.le_refl _, Nat.le_refl _⟩
theorem le_kL {k : cx} {S S' : hs} {ci : Nat} {v : Option Nat} : hN (mk k S) ≤ hN (mk (kLt (kNw k ci) v) S') ∧ hZ (mk k S) ≤ hZ (mk (kLt (kNw k ci) v) S') := by
  constructor
  · show 213 + 2 * k.1 ≤ 213 + 2 * (k.1 + 1); omega
  · show 4364 + 34 * k.1 ≤ 4364 + 34 * (k.1 + 1); omega
theorem le_kL1 {k : cx} {S S' : hs} {ci : Nat} {u v : Option Nat} : hN (mk k S) ≤ hN (mk (kLt (kNw (kLt k u) ci) v) S') ∧ hZ (mk k S) ≤ hZ (mk (kLt (kNw (kLt k u) ci) v) S') := by
  constructor
  · show 213 + 2 * k.1 ≤ 213 + 2 * (k.1 + 1); omega
  · show 4364 + 34 * k.1 ≤ 4364 + 34 * (k.1 + 1); omega
theorem kLt_e {k : cx} {v : Option Nat} (h : k.2.2.2 = v) : kLt k v = k := by
  obtain ⟨a, b, c, d⟩ := k
  cases h
  rfl
theorem Tg_n {k : cx} {ci : Nat} {v : Option Nat} (hc : 6 ≤ ci ∧ ci ≤ 10) : Tg (kLt (kNw k ci) v) (213 + 2 * k.1) ci := ⟨k.1, rfl, Nat.lt_succ_self _, if_pos rfl, hc⟩
theorem tS_0 {S : hs} {t : Nat} {x y : Int32} : gI (tS S t x y) t 0 = x := by unfold tS; rw [gI_un (by decide), gI_us]
theorem tS_1 {S : hs} {t : Nat} {x y : Int32} : gI (tS S t x y) t 1 = y := by unfold tS; rw [gI_us]
theorem tS_3 {S : hs} {t : Nat} {x y : Int32} : gI (tS S t x y) t 3 = iN 0 := by
  unfold tS
  rw [gI_un (by decide), gI_un (by decide)]
  exact if_neg (Nat.lt_irrefl _)
theorem tS_o {S : hs} {t a i : Nat} {x y : Int32} (h : a < t) : gI (tS S t x y) a i = gI S a i ∧ gJ (tS S t x y) a i = gJ S a i := by
  unfold tS
  rw [gI_ua (by omega), gI_ua (by omega)]
  exact ⟨if_pos h, if_pos h⟩
def b_X_act_0_3 : List Ins := [(.aload_n 0, 0, 0, 0), (.aconst_null, 0, 0, 0), (.putfield 53, 0, 8, 2)]
theorem k_X_act_0_3 : bok m_X_act 0 b_X_act_0_3 = true := by decide +kernel
def b_X_act_5_3 : List Ins := [(.aload_n 0, 0, 0, 0), (.getfield 36, 0, 4, 2), (.iload_n 1, 0, 0, 0)]
theorem k_X_act_5_3 : bok m_X_act 5 b_X_act_5_3 = true := by decide +kernel
theorem d_X_act_10 : decode m_X_act.2.1 10 = .ok (.invokevirtual 266, 3) := by decide +kernel
theorem d_X_act_13 : decode m_X_act.2.1 13 = .ok (.ifCond .eq (12), 3) := by decide +kernel
def b_X_act_16_1 : List Ins := [(.iload_n 2, 0, 0, 0)]
theorem k_X_act_16_1 : bok m_X_act 16 b_X_act_16_1 = true := by decide +kernel
theorem d_X_act_17 : decode m_X_act.2.1 17 = .ok (.ifCond .lt (8), 3) := by decide +kernel
def b_X_act_20_2 : List Ins := [(.iload_n 2, 0, 0, 0), (.iconst (3), 0, 0, 0)]
theorem k_X_act_20_2 : bok m_X_act 20 b_X_act_20_2 = true := by decide +kernel
theorem d_X_act_22 : decode m_X_act.2.1 22 = .ok (.if_icmp .le (5), 3) := by decide +kernel
def b_X_act_25_1 : List Ins := [(.iconst (0), 0, 0, 0)]
theorem k_X_act_25_1 : bok m_X_act 25 b_X_act_25_1 = true := by decide +kernel
theorem d_X_act_26 : decode m_X_act.2.1 26 = .ok (.ireturn, 1) := by decide +kernel
def b_X_act_27_3 : List Ins := [(.aload_n 0, 0, 0, 0), (.aload_n 0, 0, 0, 0), (.iload_n 1, 0, 0, 0)]
theorem k_X_act_27_3 : bok m_X_act 27 b_X_act_27_3 = true := by decide +kernel
theorem d_X_act_30 : decode m_X_act.2.1 30 = .ok (.invokevirtual 289, 3) := by decide +kernel
def b_X_act_33_10 : List Ins := [(.aload_n 0, 0, 0, 0), (.getfield 36, 0, 4, 2), (.getfield 283, 5, 4, 2), (.iload_n 1, 0, 0, 0), (.iaload, 0, 0, 0), (.aload_n 0, 0, 0, 0), (.getfield 36, 0, 4, 2), (.getfield 286, 5, 5, 2), (.iload_n 1, 0, 0, 0), (.iaload, 0, 0, 0)]
theorem k_X_act_33_10 : bok m_X_act 33 b_X_act_33_10 = true := by decide +kernel
theorem d_X_act_51 : decode m_X_act.2.1 51 = .ok (.invokestatic 295, 3) := by decide +kernel
def b_X_act_54_1 : List Ins := [(.putfield 53, 0, 8, 2)]
theorem k_X_act_54_1 : bok m_X_act 54 b_X_act_54_1 = true := by decide +kernel
def b_X_act_57_2 : List Ins := [(.aload_n 0, 0, 0, 0), (.getfield 53, 0, 8, 2)]
theorem k_X_act_57_2 : bok m_X_act 57 b_X_act_57_2 = true := by decide +kernel
theorem d_X_act_61 : decode m_X_act.2.1 61 = .ok (.ifnonnull (5), 3) := by decide +kernel
def b_X_act_64_1 : List Ins := [(.iconst (0), 0, 0, 0)]
theorem k_X_act_64_1 : bok m_X_act 64 b_X_act_64_1 = true := by decide +kernel
theorem d_X_act_65 : decode m_X_act.2.1 65 = .ok (.ireturn, 1) := by decide +kernel
def b_X_act_66_1 : List Ins := [(.iload_n 2, 0, 0, 0)]
theorem k_X_act_66_1 : bok m_X_act 66 b_X_act_66_1 = true := by decide +kernel
theorem d_X_act_67 : decode m_X_act.2.1 67 = .ok (.tableswitch (52) (0) (2) #[25, 34, 43], 25) := by decide +kernel
def b_X_act_92_3 : List Ins := [(.aload_n 0, 0, 0, 0), (.getfield 53, 0, 8, 2), (.iload_n 3, 0, 0, 0)]
theorem k_X_act_92_3 : bok m_X_act 92 b_X_act_92_3 = true := by decide +kernel
theorem d_X_act_97 : decode m_X_act.2.1 97 = .ok (.invokevirtual 299, 3) := by decide +kernel
theorem d_X_act_100 : decode m_X_act.2.1 100 = .ok (.ireturn, 1) := by decide +kernel
def b_X_act_101_3 : List Ins := [(.aload_n 0, 0, 0, 0), (.getfield 53, 0, 8, 2), (.iload_n 3, 0, 0, 0)]
theorem k_X_act_101_3 : bok m_X_act 101 b_X_act_101_3 = true := by decide +kernel
theorem d_X_act_106 : decode m_X_act.2.1 106 = .ok (.invokevirtual 304, 3) := by decide +kernel
theorem d_X_act_109 : decode m_X_act.2.1 109 = .ok (.ireturn, 1) := by decide +kernel
def b_X_act_110_3 : List Ins := [(.aload_n 0, 0, 0, 0), (.getfield 53, 0, 8, 2), (.iload_n 3, 0, 0, 0)]
theorem k_X_act_110_3 : bok m_X_act 110 b_X_act_110_3 = true := by decide +kernel
theorem d_X_act_115 : decode m_X_act.2.1 115 = .ok (.invokevirtual 307, 3) := by decide +kernel
theorem d_X_act_118 : decode m_X_act.2.1 118 = .ok (.ireturn, 1) := by decide +kernel
def b_X_act_119_3 : List Ins := [(.aload_n 0, 0, 0, 0), (.getfield 53, 0, 8, 2), (.iload_n 3, 0, 0, 0)]
theorem k_X_act_119_3 : bok m_X_act 119 b_X_act_119_3 = true := by decide +kernel
theorem d_X_act_124 : decode m_X_act.2.1 124 = .ok (.invokevirtual 310, 3) := by decide +kernel
theorem d_X_act_127 : decode m_X_act.2.1 127 = .ok (.ireturn, 1) := by decide +kernel
theorem J_act_0 (w : Wd) (d : Nat) (k : cx) (S : hs) (t ci : Nat) (x1 x2 x3 : Int32) (hx : x2 = 0) (hT : Tg (kLt k (some t)) t ci) (h3 : Ok3 S t) (n0 z0 : Nat) : J w (d + 7) m_X_act (n0, z0, some (.int (vTu ci (gI S t 0) (gI S t 1) x3)), mk (kLt k (some t)) (bgs S t (bTu ci))) 66 [some (.ref 33), some (.int x1), some (.int x2), some (.int x3)] [] (mk (kLt k (some t)) S) := by
  subst hx
  refine J.run b_X_act_66_1 k_X_act_66_1 rfl (show J w (d + 7) m_X_act (n0, z0, some (.int (vTu ci (gI S t 0) (gI S t 1) x3)), mk (kLt k (some t)) (bgs S t (bTu ci))) 67 [some (.ref 33), some (.int x1), some (.int (0 : Int32)), some (.int x3)] [.int (0 : Int32)] (mk (kLt k (some t)) S) from ?_)
  refine J.tsIn (off := 25) (tgt := 92) d_X_act_67 (by decide) (by decide) (by rfl) rfl ?_
  refine J.run b_X_act_92_3 k_X_act_92_3 rfl (And.intro (okO_st rfl) (show J w (d + 7) m_X_act (n0, z0, some (.int (vTu ci (gI S t 0) (gI S t 1) x3)), mk (kLt k (some t)) (bgs S t (bTu ci))) 97 [some (.ref 33), some (.int x1), some (.int (0 : Int32)), some (.int x3)] [.int x3, .ref t] (mk (kLt k (some t)) S) from ?_))
  refine J.callU (y := mTu ci) (o := m_G_turns) (x := (⟨"LeftTown$Thing", "turns", "(I)I"⟩ : MethodName)) (C := cN ci) (av := [.int x3]) (rest := []) (q := t) (lu_X_299 hT.five) d_X_act_97 (isC_t hT) (cv_turns w (d + 4) (kLt k (some t)) S t ci x3 hT h3) rfl (Nat.le_of_ble_eq_true rfl) (mk_le _ _ _) (show J w (d + 7) m_X_act (n0, z0, some (.int (vTu ci (gI S t 0) (gI S t 1) x3)), mk (kLt k (some t)) (bgs S t (bTu ci))) 100 [some (.ref 33), some (.int x1), some (.int (0 : Int32)), some (.int x3)] [.int (vTu ci (gI S t 0) (gI S t 1) x3)] (mk (kLt k (some t)) (bgs S t (bTu ci))) from ?_)
  exact J.iret d_X_act_100 rfl rfl
theorem J_act_1 (w : Wd) (d : Nat) (k : cx) (S : hs) (t ci : Nat) (x1 x2 x3 : Int32) (hx : x2 = 1) (hT : Tg (kLt k (some t)) t ci) (h3 : Ok3 S t) (n0 z0 : Nat) : J w (d + 7) m_X_act (n0, z0, some (.int (vGo ci (gI S t 0) (gI S t 1) x3)), mk (kLt k (some t)) (bgs S t (bGo ci))) 66 [some (.ref 33), some (.int x1), some (.int x2), some (.int x3)] [] (mk (kLt k (some t)) S) := by
  subst hx
  refine J.run b_X_act_66_1 k_X_act_66_1 rfl (show J w (d + 7) m_X_act (n0, z0, some (.int (vGo ci (gI S t 0) (gI S t 1) x3)), mk (kLt k (some t)) (bgs S t (bGo ci))) 67 [some (.ref 33), some (.int x1), some (.int (1 : Int32)), some (.int x3)] [.int (1 : Int32)] (mk (kLt k (some t)) S) from ?_)
  refine J.tsIn (off := 34) (tgt := 101) d_X_act_67 (by decide) (by decide) (by rfl) rfl ?_
  refine J.run b_X_act_101_3 k_X_act_101_3 rfl (And.intro (okO_st rfl) (show J w (d + 7) m_X_act (n0, z0, some (.int (vGo ci (gI S t 0) (gI S t 1) x3)), mk (kLt k (some t)) (bgs S t (bGo ci))) 106 [some (.ref 33), some (.int x1), some (.int (1 : Int32)), some (.int x3)] [.int x3, .ref t] (mk (kLt k (some t)) S) from ?_))
  refine J.callU (y := mGo ci) (o := m_G_goes) (x := (⟨"LeftTown$Thing", "goes", "(I)I"⟩ : MethodName)) (C := cN ci) (av := [.int x3]) (rest := []) (q := t) (lu_X_304 hT.five) d_X_act_106 (isC_t hT) (cv_goes w (d + 2) (kLt k (some t)) S t ci x3 hT h3) rfl (Nat.le_of_ble_eq_true rfl) (mk_le _ _ _) (show J w (d + 7) m_X_act (n0, z0, some (.int (vGo ci (gI S t 0) (gI S t 1) x3)), mk (kLt k (some t)) (bgs S t (bGo ci))) 109 [some (.ref 33), some (.int x1), some (.int (1 : Int32)), some (.int x3)] [.int (vGo ci (gI S t 0) (gI S t 1) x3)] (mk (kLt k (some t)) (bgs S t (bGo ci))) from ?_)
  exact J.iret d_X_act_109 rfl rfl
theorem J_act_2 (w : Wd) (d : Nat) (k : cx) (S : hs) (t ci : Nat) (x1 x2 x3 : Int32) (hx : x2 = 2) (hT : Tg (kLt k (some t)) t ci) (h3 : Ok3 S t) (n0 z0 : Nat) : J w (d + 7) m_X_act (n0, z0, some (.int (vSe ci (gI S t 0) (gI S t 1) x3)), mk (kLt k (some t)) (bgs S t (bSe ci))) 66 [some (.ref 33), some (.int x1), some (.int x2), some (.int x3)] [] (mk (kLt k (some t)) S) := by
  subst hx
  refine J.run b_X_act_66_1 k_X_act_66_1 rfl (show J w (d + 7) m_X_act (n0, z0, some (.int (vSe ci (gI S t 0) (gI S t 1) x3)), mk (kLt k (some t)) (bgs S t (bSe ci))) 67 [some (.ref 33), some (.int x1), some (.int (2 : Int32)), some (.int x3)] [.int (2 : Int32)] (mk (kLt k (some t)) S) from ?_)
  refine J.tsIn (off := 43) (tgt := 110) d_X_act_67 (by decide) (by decide) (by rfl) rfl ?_
  refine J.run b_X_act_110_3 k_X_act_110_3 rfl (And.intro (okO_st rfl) (show J w (d + 7) m_X_act (n0, z0, some (.int (vSe ci (gI S t 0) (gI S t 1) x3)), mk (kLt k (some t)) (bgs S t (bSe ci))) 115 [some (.ref 33), some (.int x1), some (.int (2 : Int32)), some (.int x3)] [.int x3, .ref t] (mk (kLt k (some t)) S) from ?_))
  refine J.callU (y := mSe ci) (o := m_G_sees) (x := (⟨"LeftTown$Thing", "sees", "(I)I"⟩ : MethodName)) (C := cN ci) (av := [.int x3]) (rest := []) (q := t) (lu_X_307 hT.five) d_X_act_115 (isC_t hT) (cv_sees w (d + 3) (kLt k (some t)) S t ci x3 hT h3) rfl (Nat.le_of_ble_eq_true rfl) (mk_le _ _ _) (show J w (d + 7) m_X_act (n0, z0, some (.int (vSe ci (gI S t 0) (gI S t 1) x3)), mk (kLt k (some t)) (bgs S t (bSe ci))) 118 [some (.ref 33), some (.int x1), some (.int (2 : Int32)), some (.int x3)] [.int (vSe ci (gI S t 0) (gI S t 1) x3)] (mk (kLt k (some t)) (bgs S t (bSe ci))) from ?_)
  exact J.iret d_X_act_118 rfl rfl
theorem J_act_3 (w : Wd) (d : Nat) (k : cx) (S : hs) (t ci : Nat) (x1 x2 x3 : Int32) (hx : x2 = 3) (hT : Tg (kLt k (some t)) t ci) (h3 : Ok3 S t) (n0 z0 : Nat) : J w (d + 7) m_X_act (n0, z0, some (.int (vTe ci (gI S t 0) (gI S t 1) x3)), mk (kLt k (some t)) (bgs S t (bTe ci))) 66 [some (.ref 33), some (.int x1), some (.int x2), some (.int x3)] [] (mk (kLt k (some t)) S) := by
  subst hx
  refine J.run b_X_act_66_1 k_X_act_66_1 rfl (show J w (d + 7) m_X_act (n0, z0, some (.int (vTe ci (gI S t 0) (gI S t 1) x3)), mk (kLt k (some t)) (bgs S t (bTe ci))) 67 [some (.ref 33), some (.int x1), some (.int (3 : Int32)), some (.int x3)] [.int (3 : Int32)] (mk (kLt k (some t)) S) from ?_)
  refine J.tsOut (tgt := 119) d_X_act_67 (by decide) rfl ?_
  refine J.run b_X_act_119_3 k_X_act_119_3 rfl (And.intro (okO_st rfl) (show J w (d + 7) m_X_act (n0, z0, some (.int (vTe ci (gI S t 0) (gI S t 1) x3)), mk (kLt k (some t)) (bgs S t (bTe ci))) 124 [some (.ref 33), some (.int x1), some (.int (3 : Int32)), some (.int x3)] [.int x3, .ref t] (mk (kLt k (some t)) S) from ?_))
  refine J.callU (y := mTe ci) (o := m_G_tells) (x := (⟨"LeftTown$Thing", "tells", "(I)I"⟩ : MethodName)) (C := cN ci) (av := [.int x3]) (rest := []) (q := t) (lu_X_310 hT.five) d_X_act_124 (isC_t hT) (cv_tells w (d + 0) (kLt k (some t)) S t ci x3 hT h3) rfl (Nat.le_of_ble_eq_true rfl) (mk_le _ _ _) (show J w (d + 7) m_X_act (n0, z0, some (.int (vTe ci (gI S t 0) (gI S t 1) x3)), mk (kLt k (some t)) (bgs S t (bTe ci))) 127 [some (.ref 33), some (.int x1), some (.int (3 : Int32)), some (.int x3)] [.int (vTe ci (gI S t 0) (gI S t 1) x3)] (mk (kLt k (some t)) (bgs S t (bTe ci))) from ?_)
  exact J.iret d_X_act_127 rfl rfl
def b_X_trace_0_2 : List Ins := [(.aload_n 0, 0, 0, 0), (.getfield 53, 0, 8, 2)]
theorem k_X_trace_0_2 : bok m_X_trace 0 b_X_trace_0_2 = true := by decide +kernel
theorem d_X_trace_4 : decode m_X_trace.2.1 4 = .ok (.ifnull (18), 3) := by decide +kernel
def b_X_trace_7_1 : List Ins := [(.iload_n 1, 0, 0, 0)]
theorem k_X_trace_7_1 : bok m_X_trace 7 b_X_trace_7_1 = true := by decide +kernel
theorem d_X_trace_8 : decode m_X_trace.2.1 8 = .ok (.ifCond .lt (14), 3) := by decide +kernel
def b_X_trace_11_4 : List Ins := [(.iload_n 1, 0, 0, 0), (.aload_n 0, 0, 0, 0), (.getfield 53, 0, 8, 2), (.getfield 313, 12, 3, 0)]
theorem k_X_trace_11_4 : bok m_X_trace 11 b_X_trace_11_4 = true := by decide +kernel
theorem d_X_trace_19 : decode m_X_trace.2.1 19 = .ok (.if_icmp .lt (8), 3) := by decide +kernel
def b_X_trace_22_1 : List Ins := [(.bipush (-3), 0, 0, 0)]
theorem k_X_trace_22_1 : bok m_X_trace 22 b_X_trace_22_1 = true := by decide +kernel
theorem d_X_trace_24 : decode m_X_trace.2.1 24 = .ok (.goto (12), 3) := by decide +kernel
def b_X_trace_27_3 : List Ins := [(.aload_n 0, 0, 0, 0), (.getfield 53, 0, 8, 2), (.getfield 316, 12, 2, 2)]
theorem k_X_trace_27_3 : bok m_X_trace 27 b_X_trace_27_3 = true := by decide +kernel
def b_X_trace_34_2 : List Ins := [(.iload_n 1, 0, 0, 0), (.iaload, 0, 0, 0)]
theorem k_X_trace_34_2 : bok m_X_trace 34 b_X_trace_34_2 = true := by decide +kernel
theorem d_X_trace_36 : decode m_X_trace.2.1 36 = .ok (.ireturn, 1) := by decide +kernel
theorem c_X_trace0 (w : Wd) (d : Nat) (k : cx) (S : hs) (x : Int32) : Cl w (d + 1) m_X_trace [.ref 33, .int x] (mk (kLt k none) S) (some (.int (-3 : Int32))) (mk (kLt k none) S) := by
  refine Cl.of (Nat.le_refl _) (Nat.le_refl _) (by decide +kernel) (Nat.le_of_ble_eq_true rfl) ?_
  generalize hN (mk (kLt k none) S) = n0
  generalize hZ (mk (kLt k none) S) = z0
  show J w (d + 1) m_X_trace (n0, z0, some (.int (-3 : Int32)), (mk (kLt k none) S)) 0 [some (.ref 33), some (.int x)] [] (mk (kLt k none) S)
  refine J.run b_X_trace_0_2 k_X_trace_0_2 rfl (And.intro (okO_st rfl) (show J w (d + 1) m_X_trace (n0, z0, some (.int (-3 : Int32)), (mk (kLt k none) S)) 4 [some (.ref 33), some (.int x)] [.null] (mk (kLt k none) S) from ?_))
  refine J.nuN (tgt := 22) d_X_trace_4 rfl ?_
  refine J.run b_X_trace_22_1 k_X_trace_22_1 rfl (show J w (d + 1) m_X_trace (n0, z0, some (.int (-3 : Int32)), (mk (kLt k none) S)) 24 [some (.ref 33), some (.int x)] [.int (-3 : Int32)] (mk (kLt k none) S) from ?_)
  refine J.goto (tgt := 36) d_X_trace_24 rfl ?_
  exact J.iret d_X_trace_36 rfl rfl
theorem c_X_trace1 (w : Wd) (d : Nat) (k : cx) (S : hs) (t ci : Nat) (x : Int32) (hT : Tg (kLt k (some t)) t ci) (hx : ¬ (0 ≤ x.toInt ∧ x < gI S t 3)) : Cl w (d + 1) m_X_trace [.ref 33, .int x] (mk (kLt k (some t)) S) (some (.int (-3 : Int32))) (mk (kLt k (some t)) S) := by
  refine Cl.of (Nat.le_refl _) (Nat.le_refl _) (by decide +kernel) (Nat.le_of_ble_eq_true rfl) ?_
  generalize hN (mk (kLt k (some t)) S) = n0
  generalize hZ (mk (kLt k (some t)) S) = z0
  show J w (d + 1) m_X_trace (n0, z0, some (.int (-3 : Int32)), (mk (kLt k (some t)) S)) 0 [some (.ref 33), some (.int x)] [] (mk (kLt k (some t)) S)
  refine J.run b_X_trace_0_2 k_X_trace_0_2 rfl (And.intro (okO_st rfl) (show J w (d + 1) m_X_trace (n0, z0, some (.int (-3 : Int32)), (mk (kLt k (some t)) S)) 4 [some (.ref 33), some (.int x)] [.ref t] (mk (kLt k (some t)) S) from ?_))
  refine J.nuR d_X_trace_4 ?_
  refine J.run b_X_trace_7_1 k_X_trace_7_1 rfl (show J w (d + 1) m_X_trace (n0, z0, some (.int (-3 : Int32)), (mk (kLt k (some t)) S)) 8 [some (.ref 33), some (.int x)] [.int x] (mk (kLt k (some t)) S) from ?_)
  refine J.zlt (tgt := 22) d_X_trace_8 rfl (fun _ => ?_) (fun q => ?_)
  · skip
    refine J.run b_X_trace_22_1 k_X_trace_22_1 rfl (show J w (d + 1) m_X_trace (n0, z0, some (.int (-3 : Int32)), (mk (kLt k (some t)) S)) 24 [some (.ref 33), some (.int x)] [.int (-3 : Int32)] (mk (kLt k (some t)) S) from ?_)
    refine J.goto (tgt := 36) d_X_trace_24 rfl ?_
    exact J.iret d_X_trace_36 rfl rfl
  · refine J.run b_X_trace_11_4 k_X_trace_11_4 rfl (And.intro (okO_st rfl) (And.intro (okO_t hT) (show J w (d + 1) m_X_trace (n0, z0, some (.int (-3 : Int32)), (mk (kLt k (some t)) S)) 19 [some (.ref 33), some (.int x)] [.int (gI S t 3), .int x] (mk (kLt k (some t)) S) from ?_)))
    refine J.clt (tgt := 27) d_X_trace_19 rfl (fun q2 => ?_) (fun _ => ?_)
    · exact absurd ⟨Int.not_lt.mp (fun z => q (Int32.lt_iff_toInt_lt.mpr z)), q2⟩ hx
    · skip
      refine J.run b_X_trace_22_1 k_X_trace_22_1 rfl (show J w (d + 1) m_X_trace (n0, z0, some (.int (-3 : Int32)), (mk (kLt k (some t)) S)) 24 [some (.ref 33), some (.int x)] [.int (-3 : Int32)] (mk (kLt k (some t)) S) from ?_)
      refine J.goto (tgt := 36) d_X_trace_24 rfl ?_
      exact J.iret d_X_trace_36 rfl rfl
theorem c_X_trace2 (w : Wd) (d : Nat) (k : cx) (S : hs) (t ci : Nat) (x : Int32) (hT : Tg (kLt k (some t)) t ci) (hx : 0 ≤ x.toInt ∧ x < gI S t 3) (hi : inb x 30 = true) : Cl w (d + 1) m_X_trace [.ref 33, .int x] (mk (kLt k (some t)) S) (some (.int (gI S (t + 1) (x).toNatClampNeg))) (mk (kLt k (some t)) S) := by
  refine Cl.of (Nat.le_refl _) (Nat.le_refl _) (by decide +kernel) (Nat.le_of_ble_eq_true rfl) ?_
  generalize hN (mk (kLt k (some t)) S) = n0
  generalize hZ (mk (kLt k (some t)) S) = z0
  show J w (d + 1) m_X_trace (n0, z0, some (.int (gI S (t + 1) (x).toNatClampNeg)), (mk (kLt k (some t)) S)) 0 [some (.ref 33), some (.int x)] [] (mk (kLt k (some t)) S)
  refine J.run b_X_trace_0_2 k_X_trace_0_2 rfl (And.intro (okO_st rfl) (show J w (d + 1) m_X_trace (n0, z0, some (.int (gI S (t + 1) (x).toNatClampNeg)), (mk (kLt k (some t)) S)) 4 [some (.ref 33), some (.int x)] [.ref t] (mk (kLt k (some t)) S) from ?_))
  refine J.nuR d_X_trace_4 ?_
  refine J.run b_X_trace_7_1 k_X_trace_7_1 rfl (show J w (d + 1) m_X_trace (n0, z0, some (.int (gI S (t + 1) (x).toNatClampNeg)), (mk (kLt k (some t)) S)) 8 [some (.ref 33), some (.int x)] [.int x] (mk (kLt k (some t)) S) from ?_)
  refine J.zlt (tgt := 22) d_X_trace_8 rfl (fun q => absurd hx.1 (Int.not_le.mpr (Int32.lt_iff_toInt_lt.mp q))) (fun _ => ?_)
  refine J.run b_X_trace_11_4 k_X_trace_11_4 rfl (And.intro (okO_st rfl) (And.intro (okO_t hT) (show J w (d + 1) m_X_trace (n0, z0, some (.int (gI S (t + 1) (x).toNatClampNeg)), (mk (kLt k (some t)) S)) 19 [some (.ref 33), some (.int x)] [.int (gI S t 3), .int x] (mk (kLt k (some t)) S) from ?_)))
  refine J.clt (tgt := 27) d_X_trace_19 rfl (fun _ => ?_) (fun q => absurd hx.2 q)
  refine J.run b_X_trace_27_3 k_X_trace_27_3 rfl (And.intro (okO_st rfl) (And.intro (okO_t hT) (show J w (d + 1) m_X_trace (n0, z0, some (.int (gI S (t + 1) (x).toNatClampNeg)), (mk (kLt k (some t)) S)) 34 [some (.ref 33), some (.int x)] [rv (hR (mk (kLt k (some t)) S) t 2)] (mk (kLt k (some t)) S) from ?_)))
  rw [hR_t hT]
  show J w (d + 1) m_X_trace (n0, z0, some (.int (gI S (t + 1) (x).toNatClampNeg)), (mk (kLt k (some t)) S)) 34 [some (.ref 33), some (.int x)] [.ref (t + 1)] (mk (kLt k (some t)) S)
  refine J.run b_X_trace_34_2 k_X_trace_34_2 rfl (And.intro (okA_t hT hi) (show J w (d + 1) m_X_trace (n0, z0, some (.int (gI S (t + 1) (x).toNatClampNeg)), (mk (kLt k (some t)) S)) 36 [some (.ref 33), some (.int x)] [.int (gI S (t + 1) (x).toNatClampNeg)] (mk (kLt k (some t)) S) from ?_))
  exact J.iret d_X_trace_36 rfl rfl
def b_X_many_0_1 : List Ins := [(.iload_n 1, 0, 0, 0)]
theorem k_X_many_0_1 : bok m_X_many 0 b_X_many_0_1 = true := by decide +kernel
theorem d_X_many_1 : decode m_X_many.2.1 1 = .ok (.tableswitch (122) (0) (7) #[47, 55, 63, 71, 79, 90, 95, 103], 47) := by decide +kernel
def b_X_many_48_3 : List Ins := [(.aload_n 0, 0, 0, 0), (.getfield 10, 0, 0, 2), (.getfield 57, 1, 5, 0)]
theorem k_X_many_48_3 : bok m_X_many 48 b_X_many_48_3 = true := by decide +kernel
theorem d_X_many_55 : decode m_X_many.2.1 55 = .ok (.ireturn, 1) := by decide +kernel
theorem c_X_many0 (w : Wd) (d : Nat) (k : cx) (S : hs)  : Cl w (d + 5) m_X_many [.ref 33, .int (0 : Int32)] (mk k S) (some (.int (gI S 34 5))) (mk k S) := by
  refine Cl.of (Nat.le_refl _) (Nat.le_refl _) (by decide +kernel) (Nat.le_of_ble_eq_true rfl) ?_
  generalize hN (mk k S) = n0
  generalize hZ (mk k S) = z0
  show J w (d + 5) m_X_many (n0, z0, some (.int (gI S 34 5)), (mk k S)) 0 [some (.ref 33), some (.int (0 : Int32))] [] (mk k S)
  refine J.run b_X_many_0_1 k_X_many_0_1 rfl (show J w (d + 5) m_X_many (n0, z0, some (.int (gI S 34 5)), (mk k S)) 1 [some (.ref 33), some (.int (0 : Int32))] [.int (0 : Int32)] (mk k S) from ?_)
  refine J.tsIn (off := 47) (tgt := 48) d_X_many_1 (by decide) (by decide) (by rfl) rfl ?_
  refine J.run b_X_many_48_3 k_X_many_48_3 rfl (And.intro (okO_st rfl) (And.intro (okO_st rfl) (show J w (d + 5) m_X_many (n0, z0, some (.int (gI S 34 5)), (mk k S)) 55 [some (.ref 33), some (.int (0 : Int32))] [.int (gI S 34 5)] (mk k S) from ?_)))
  exact J.iret d_X_many_55 rfl rfl
def b_X_many_56_3 : List Ins := [(.aload_n 0, 0, 0, 0), (.getfield 10, 0, 0, 2), (.getfield 85, 1, 6, 0)]
theorem k_X_many_56_3 : bok m_X_many 56 b_X_many_56_3 = true := by decide +kernel
theorem d_X_many_63 : decode m_X_many.2.1 63 = .ok (.ireturn, 1) := by decide +kernel
theorem c_X_many1 (w : Wd) (d : Nat) (k : cx) (S : hs)  : Cl w (d + 5) m_X_many [.ref 33, .int (1 : Int32)] (mk k S) (some (.int (gI S 34 6))) (mk k S) := by
  refine Cl.of (Nat.le_refl _) (Nat.le_refl _) (by decide +kernel) (Nat.le_of_ble_eq_true rfl) ?_
  generalize hN (mk k S) = n0
  generalize hZ (mk k S) = z0
  show J w (d + 5) m_X_many (n0, z0, some (.int (gI S 34 6)), (mk k S)) 0 [some (.ref 33), some (.int (1 : Int32))] [] (mk k S)
  refine J.run b_X_many_0_1 k_X_many_0_1 rfl (show J w (d + 5) m_X_many (n0, z0, some (.int (gI S 34 6)), (mk k S)) 1 [some (.ref 33), some (.int (1 : Int32))] [.int (1 : Int32)] (mk k S) from ?_)
  refine J.tsIn (off := 55) (tgt := 56) d_X_many_1 (by decide) (by decide) (by rfl) rfl ?_
  refine J.run b_X_many_56_3 k_X_many_56_3 rfl (And.intro (okO_st rfl) (And.intro (okO_st rfl) (show J w (d + 5) m_X_many (n0, z0, some (.int (gI S 34 6)), (mk k S)) 63 [some (.ref 33), some (.int (1 : Int32))] [.int (gI S 34 6)] (mk k S) from ?_)))
  exact J.iret d_X_many_63 rfl rfl
def b_X_many_72_3 : List Ins := [(.aload_n 0, 0, 0, 0), (.getfield 10, 0, 0, 2), (.getfield 141, 1, 7, 0)]
theorem k_X_many_72_3 : bok m_X_many 72 b_X_many_72_3 = true := by decide +kernel
theorem d_X_many_79 : decode m_X_many.2.1 79 = .ok (.ireturn, 1) := by decide +kernel
theorem c_X_many3 (w : Wd) (d : Nat) (k : cx) (S : hs)  : Cl w (d + 5) m_X_many [.ref 33, .int (3 : Int32)] (mk k S) (some (.int (gI S 34 7))) (mk k S) := by
  refine Cl.of (Nat.le_refl _) (Nat.le_refl _) (by decide +kernel) (Nat.le_of_ble_eq_true rfl) ?_
  generalize hN (mk k S) = n0
  generalize hZ (mk k S) = z0
  show J w (d + 5) m_X_many (n0, z0, some (.int (gI S 34 7)), (mk k S)) 0 [some (.ref 33), some (.int (3 : Int32))] [] (mk k S)
  refine J.run b_X_many_0_1 k_X_many_0_1 rfl (show J w (d + 5) m_X_many (n0, z0, some (.int (gI S 34 7)), (mk k S)) 1 [some (.ref 33), some (.int (3 : Int32))] [.int (3 : Int32)] (mk k S) from ?_)
  refine J.tsIn (off := 71) (tgt := 72) d_X_many_1 (by decide) (by decide) (by rfl) rfl ?_
  refine J.run b_X_many_72_3 k_X_many_72_3 rfl (And.intro (okO_st rfl) (And.intro (okO_st rfl) (show J w (d + 5) m_X_many (n0, z0, some (.int (gI S 34 7)), (mk k S)) 79 [some (.ref 33), some (.int (3 : Int32))] [.int (gI S 34 7)] (mk k S) from ?_)))
  exact J.iret d_X_many_79 rfl rfl
def b_X_many_80_4 : List Ins := [(.aload_n 0, 0, 0, 0), (.getfield 10, 0, 0, 2), (.getfield 112, 1, 3, 2), (.getfield 322, 2, 5, 0)]
theorem k_X_many_80_4 : bok m_X_many 80 b_X_many_80_4 = true := by decide +kernel
theorem d_X_many_90 : decode m_X_many.2.1 90 = .ok (.ireturn, 1) := by decide +kernel
theorem c_X_many4 (w : Wd) (d : Nat) (k : cx) (S : hs)  : Cl w (d + 5) m_X_many [.ref 33, .int (4 : Int32)] (mk k S) (some (.int (gI S 74 5))) (mk k S) := by
  refine Cl.of (Nat.le_refl _) (Nat.le_refl _) (by decide +kernel) (Nat.le_of_ble_eq_true rfl) ?_
  generalize hN (mk k S) = n0
  generalize hZ (mk k S) = z0
  show J w (d + 5) m_X_many (n0, z0, some (.int (gI S 74 5)), (mk k S)) 0 [some (.ref 33), some (.int (4 : Int32))] [] (mk k S)
  refine J.run b_X_many_0_1 k_X_many_0_1 rfl (show J w (d + 5) m_X_many (n0, z0, some (.int (gI S 74 5)), (mk k S)) 1 [some (.ref 33), some (.int (4 : Int32))] [.int (4 : Int32)] (mk k S) from ?_)
  refine J.tsIn (off := 79) (tgt := 80) d_X_many_1 (by decide) (by decide) (by rfl) rfl ?_
  refine J.run b_X_many_80_4 k_X_many_80_4 rfl (And.intro (okO_st rfl) (And.intro (okO_st rfl) (And.intro (okO_st rfl) (show J w (d + 5) m_X_many (n0, z0, some (.int (gI S 74 5)), (mk k S)) 90 [some (.ref 33), some (.int (4 : Int32))] [.int (gI S 74 5)] (mk k S) from ?_))))
  exact J.iret d_X_many_90 rfl rfl
def b_X_many_91_2 : List Ins := [(.aload_n 0, 0, 0, 0), (.getfield 45, 0, 6, 0)]
theorem k_X_many_91_2 : bok m_X_many 91 b_X_many_91_2 = true := by decide +kernel
theorem d_X_many_95 : decode m_X_many.2.1 95 = .ok (.ireturn, 1) := by decide +kernel
theorem c_X_many5 (w : Wd) (d : Nat) (k : cx) (S : hs)  : Cl w (d + 5) m_X_many [.ref 33, .int (5 : Int32)] (mk k S) (some (.int (gI S 33 6))) (mk k S) := by
  refine Cl.of (Nat.le_refl _) (Nat.le_refl _) (by decide +kernel) (Nat.le_of_ble_eq_true rfl) ?_
  generalize hN (mk k S) = n0
  generalize hZ (mk k S) = z0
  show J w (d + 5) m_X_many (n0, z0, some (.int (gI S 33 6)), (mk k S)) 0 [some (.ref 33), some (.int (5 : Int32))] [] (mk k S)
  refine J.run b_X_many_0_1 k_X_many_0_1 rfl (show J w (d + 5) m_X_many (n0, z0, some (.int (gI S 33 6)), (mk k S)) 1 [some (.ref 33), some (.int (5 : Int32))] [.int (5 : Int32)] (mk k S) from ?_)
  refine J.tsIn (off := 90) (tgt := 91) d_X_many_1 (by decide) (by decide) (by rfl) rfl ?_
  refine J.run b_X_many_91_2 k_X_many_91_2 rfl (And.intro (okO_st rfl) (show J w (d + 5) m_X_many (n0, z0, some (.int (gI S 33 6)), (mk k S)) 95 [some (.ref 33), some (.int (5 : Int32))] [.int (gI S 33 6)] (mk k S) from ?_))
  exact J.iret d_X_many_95 rfl rfl
def b_X_many_96_3 : List Ins := [(.aload_n 0, 0, 0, 0), (.getfield 22, 0, 2, 2), (.getfield 101, 3, 2, 0)]
theorem k_X_many_96_3 : bok m_X_many 96 b_X_many_96_3 = true := by decide +kernel
theorem d_X_many_103 : decode m_X_many.2.1 103 = .ok (.ireturn, 1) := by decide +kernel
theorem c_X_many6 (w : Wd) (d : Nat) (k : cx) (S : hs)  : Cl w (d + 5) m_X_many [.ref 33, .int (6 : Int32)] (mk k S) (some (.int (gI S 128 2))) (mk k S) := by
  refine Cl.of (Nat.le_refl _) (Nat.le_refl _) (by decide +kernel) (Nat.le_of_ble_eq_true rfl) ?_
  generalize hN (mk k S) = n0
  generalize hZ (mk k S) = z0
  show J w (d + 5) m_X_many (n0, z0, some (.int (gI S 128 2)), (mk k S)) 0 [some (.ref 33), some (.int (6 : Int32))] [] (mk k S)
  refine J.run b_X_many_0_1 k_X_many_0_1 rfl (show J w (d + 5) m_X_many (n0, z0, some (.int (gI S 128 2)), (mk k S)) 1 [some (.ref 33), some (.int (6 : Int32))] [.int (6 : Int32)] (mk k S) from ?_)
  refine J.tsIn (off := 95) (tgt := 96) d_X_many_1 (by decide) (by decide) (by rfl) rfl ?_
  refine J.run b_X_many_96_3 k_X_many_96_3 rfl (And.intro (okO_st rfl) (And.intro (okO_st rfl) (show J w (d + 5) m_X_many (n0, z0, some (.int (gI S 128 2)), (mk k S)) 103 [some (.ref 33), some (.int (6 : Int32))] [.int (gI S 128 2)] (mk k S) from ?_)))
  exact J.iret d_X_many_103 rfl rfl
def b_X_many_64_2 : List Ins := [(.aload_n 0, 0, 0, 0), (.getfield 10, 0, 0, 2)]
theorem k_X_many_64_2 : bok m_X_many 64 b_X_many_64_2 = true := by decide +kernel
theorem d_X_many_68 : decode m_X_many.2.1 68 = .ok (.invokevirtual 319, 3) := by decide +kernel
theorem d_X_many_71 : decode m_X_many.2.1 71 = .ok (.ireturn, 1) := by decide +kernel
theorem c_X_many2 (w : Wd) (d : Nat) (k : cx) (S : hs) (r : Int32) (h : f_T_countCourses S = some (r, S)) : Cl w (d + 5) m_X_many [.ref 33, .int (2 : Int32)] (mk k S) (some (.int r)) (mk k S) := by
  refine Cl.of (Nat.le_refl _) (Nat.le_refl _) (by decide +kernel) (Nat.le_of_ble_eq_true rfl) ?_
  generalize hN (mk k S) = n0
  generalize hZ (mk k S) = z0
  show J w (d + 5) m_X_many (n0, z0, some (.int r), (mk k S)) 0 [some (.ref 33), some (.int (2 : Int32))] [] (mk k S)
  refine J.run b_X_many_0_1 k_X_many_0_1 rfl (show J w (d + 5) m_X_many (n0, z0, some (.int r), (mk k S)) 1 [some (.ref 33), some (.int (2 : Int32))] [.int (2 : Int32)] (mk k S) from ?_)
  refine J.tsIn (off := 63) (tgt := 64) d_X_many_1 (by decide) (by decide) (by rfl) rfl ?_
  refine J.run b_X_many_64_2 k_X_many_64_2 rfl (And.intro (okO_st rfl) (show J w (d + 5) m_X_many (n0, z0, some (.int r), (mk k S)) 68 [some (.ref 33), some (.int (2 : Int32))] [.ref 34] (mk k S) from ?_))
  refine J.callV (y := m_T_countCourses) (av := []) (rest := []) (q := 34) l_X_319 d_X_many_68 (isC_st rfl rfl) (c_T_countCourses w d k S h) rfl (Nat.le_of_ble_eq_true rfl) ⟨Nat.le_refl _, Nat.le_refl _⟩ (show J w (d + 5) m_X_many (n0, z0, some (.int r), (mk k S)) 71 [some (.ref 33), some (.int (2 : Int32))] [.int r] (mk k S) from ?_)
  exact J.iret d_X_many_71 rfl rfl
def b_X_many_104_2 : List Ins := [(.aload_n 0, 0, 0, 0), (.getfield 53, 0, 8, 2)]
theorem k_X_many_104_2 : bok m_X_many 104 b_X_many_104_2 = true := by decide +kernel
theorem d_X_many_108 : decode m_X_many.2.1 108 = .ok (.ifnonnull (7), 3) := by decide +kernel
def b_X_many_111_1 : List Ins := [(.iconst (0), 0, 0, 0)]
theorem k_X_many_111_1 : bok m_X_many 111 b_X_many_111_1 = true := by decide +kernel
theorem d_X_many_112 : decode m_X_many.2.1 112 = .ok (.goto (10), 3) := by decide +kernel
def b_X_many_115_3 : List Ins := [(.aload_n 0, 0, 0, 0), (.getfield 53, 0, 8, 2), (.getfield 313, 12, 3, 0)]
theorem k_X_many_115_3 : bok m_X_many 115 b_X_many_115_3 = true := by decide +kernel
theorem d_X_many_122 : decode m_X_many.2.1 122 = .ok (.ireturn, 1) := by decide +kernel
theorem c_X_many7n (w : Wd) (d : Nat) (k : cx) (S : hs)  : Cl w (d + 5) m_X_many [.ref 33, .int (7 : Int32)] (mk (kLt k none) S) (some (.int (0 : Int32))) (mk (kLt k none) S) := by
  refine Cl.of (Nat.le_refl _) (Nat.le_refl _) (by decide +kernel) (Nat.le_of_ble_eq_true rfl) ?_
  generalize hN (mk (kLt k none) S) = n0
  generalize hZ (mk (kLt k none) S) = z0
  show J w (d + 5) m_X_many (n0, z0, some (.int (0 : Int32)), (mk (kLt k none) S)) 0 [some (.ref 33), some (.int (7 : Int32))] [] (mk (kLt k none) S)
  refine J.run b_X_many_0_1 k_X_many_0_1 rfl (show J w (d + 5) m_X_many (n0, z0, some (.int (0 : Int32)), (mk (kLt k none) S)) 1 [some (.ref 33), some (.int (7 : Int32))] [.int (7 : Int32)] (mk (kLt k none) S) from ?_)
  refine J.tsIn (off := 103) (tgt := 104) d_X_many_1 (by decide) (by decide) (by rfl) rfl ?_
  refine J.run b_X_many_104_2 k_X_many_104_2 rfl (And.intro (okO_st rfl) (show J w (d + 5) m_X_many (n0, z0, some (.int (0 : Int32)), (mk (kLt k none) S)) 108 [some (.ref 33), some (.int (7 : Int32))] [.null] (mk (kLt k none) S) from ?_))
  refine J.nnN d_X_many_108 ?_
  refine J.run b_X_many_111_1 k_X_many_111_1 rfl (show J w (d + 5) m_X_many (n0, z0, some (.int (0 : Int32)), (mk (kLt k none) S)) 112 [some (.ref 33), some (.int (7 : Int32))] [.int (0 : Int32)] (mk (kLt k none) S) from ?_)
  refine J.goto (tgt := 122) d_X_many_112 rfl ?_
  exact J.iret d_X_many_122 rfl rfl
theorem c_X_many7 (w : Wd) (d : Nat) (k : cx) (S : hs) (t ci : Nat) (hT : Tg (kLt k (some t)) t ci) : Cl w (d + 5) m_X_many [.ref 33, .int (7 : Int32)] (mk (kLt k (some t)) S) (some (.int (gI S t 3))) (mk (kLt k (some t)) S) := by
  refine Cl.of (Nat.le_refl _) (Nat.le_refl _) (by decide +kernel) (Nat.le_of_ble_eq_true rfl) ?_
  generalize hN (mk (kLt k (some t)) S) = n0
  generalize hZ (mk (kLt k (some t)) S) = z0
  show J w (d + 5) m_X_many (n0, z0, some (.int (gI S t 3)), (mk (kLt k (some t)) S)) 0 [some (.ref 33), some (.int (7 : Int32))] [] (mk (kLt k (some t)) S)
  refine J.run b_X_many_0_1 k_X_many_0_1 rfl (show J w (d + 5) m_X_many (n0, z0, some (.int (gI S t 3)), (mk (kLt k (some t)) S)) 1 [some (.ref 33), some (.int (7 : Int32))] [.int (7 : Int32)] (mk (kLt k (some t)) S) from ?_)
  refine J.tsIn (off := 103) (tgt := 104) d_X_many_1 (by decide) (by decide) (by rfl) rfl ?_
  refine J.run b_X_many_104_2 k_X_many_104_2 rfl (And.intro (okO_st rfl) (show J w (d + 5) m_X_many (n0, z0, some (.int (gI S t 3)), (mk (kLt k (some t)) S)) 108 [some (.ref 33), some (.int (7 : Int32))] [.ref t] (mk (kLt k (some t)) S) from ?_))
  refine J.nnR (tgt := 115) d_X_many_108 rfl ?_
  refine J.run b_X_many_115_3 k_X_many_115_3 rfl (And.intro (okO_st rfl) (And.intro (okO_t hT) (show J w (d + 5) m_X_many (n0, z0, some (.int (gI S t 3)), (mk (kLt k (some t)) S)) 122 [some (.ref 33), some (.int (7 : Int32))] [.int (gI S t 3)] (mk (kLt k (some t)) S) from ?_)))
  exact J.iret d_X_many_122 rfl rfl
def b_X_many_123_1 : List Ins := [(.iconst (-1), 0, 0, 0)]
theorem k_X_many_123_1 : bok m_X_many 123 b_X_many_123_1 = true := by decide +kernel
theorem d_X_many_124 : decode m_X_many.2.1 124 = .ok (.ireturn, 1) := by decide +kernel
theorem c_X_manyB (w : Wd) (d : Nat) (k : cx) (S : hs) (x : Int32) (hx : ¬ (0 ≤ x.toInt ∧ x.toInt ≤ 7)) : Cl w (d + 5) m_X_many [.ref 33, .int x] (mk k S) (some (.int (-1 : Int32))) (mk k S) := by
  refine Cl.of (Nat.le_refl _) (Nat.le_refl _) (by decide +kernel) (Nat.le_of_ble_eq_true rfl) ?_
  generalize hN (mk k S) = n0
  generalize hZ (mk k S) = z0
  show J w (d + 5) m_X_many (n0, z0, some (.int (-1 : Int32)), (mk k S)) 0 [some (.ref 33), some (.int x)] [] (mk k S)
  refine J.run b_X_many_0_1 k_X_many_0_1 rfl (show J w (d + 5) m_X_many (n0, z0, some (.int (-1 : Int32)), (mk k S)) 1 [some (.ref 33), some (.int x)] [.int x] (mk k S) from ?_)
  refine J.tsOut (tgt := 123) d_X_many_1 (by omega) rfl ?_
  refine J.run b_X_many_123_1 k_X_many_123_1 rfl (show J w (d + 5) m_X_many (n0, z0, some (.int (-1 : Int32)), (mk k S)) 124 [some (.ref 33), some (.int x)] [.int (-1 : Int32)] (mk k S) from ?_)
  exact J.iret d_X_many_124 rfl rfl
