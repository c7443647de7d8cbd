/-! Model: texts -/
def b_M_isWord_0_3 : List Ins := [(.aload_n 0, 0, 0, 0), (.getfield 195, 11, 8, 0), (.iconst (1), 0, 0, 0)]
theorem k_M_isWord_0_3 : bok m_M_isWord 0 b_M_isWord_0_3 = true := by decide +kernel
def b_M_isWord_28_4 : List Ins := [(.iconst (0), 0, 0, 0), (.istore_n 2, 0, 0, 0), (.iconst (0), 0, 0, 0), (.istore_n 3, 0, 0, 0)]
theorem k_M_isWord_28_4 : bok m_M_isWord 28 b_M_isWord_28_4 = true := by decide +kernel
def b_M_isWord_32_2 : List Ins := [(.iload_n 3, 0, 0, 0), (.aload_n 1, 0, 0, 0)]
theorem k_M_isWord_32_2 : bok m_M_isWord 32 b_M_isWord_32_2 = true := by decide +kernel
def b_M_isWord_75_1 : List Ins := [(.iload_n 2, 0, 0, 0)]
theorem k_M_isWord_75_1 : bok m_M_isWord 75 b_M_isWord_75_1 = true := by decide +kernel
def b_M_isWord_40_1 : List Ins := [(.iload_n 2, 0, 0, 0)]
theorem k_M_isWord_40_1 : bok m_M_isWord 40 b_M_isWord_40_1 = true := by decide +kernel
def b_M_isWord_44_9 : List Ins := [(.aload_n 0, 0, 0, 0), (.getfield 20, 11, 4, 2), (.aload_n 0, 0, 0, 0), (.getfield 189, 11, 6, 0), (.iload_n 3, 0, 0, 0), (.iadd, 0, 0, 0), (.iaload, 0, 0, 0), (.aload_n 1, 0, 0, 0), (.iload_n 3, 0, 0, 0)]
theorem k_M_isWord_44_9 : bok m_M_isWord 44 b_M_isWord_44_9 = true := by decide +kernel
def b_M_isWord_67_3 : List Ins := [(.iconst (0), 0, 0, 0), (.istore_n 2, 0, 0, 0), (.iinc 3 (1), 0, 0, 0)]
theorem k_M_isWord_67_3 : bok m_M_isWord 67 b_M_isWord_67_3 = true := by decide +kernel
def b_M_isWord_63_1 : List Ins := [(.iconst (1), 0, 0, 0)]
theorem k_M_isWord_63_1 : bok m_M_isWord 63 b_M_isWord_63_1 = true := by decide +kernel
def b_M_isWord_68_2 : List Ins := [(.istore_n 2, 0, 0, 0), (.iinc 3 (1), 0, 0, 0)]
theorem k_M_isWord_68_2 : bok m_M_isWord 68 b_M_isWord_68_2 = true := by decide +kernel
def b_M_isWord_8_6 : List Ins := [(.aload_n 0, 0, 0, 0), (.getfield 186, 11, 7, 0), (.aload_n 0, 0, 0, 0), (.getfield 189, 11, 6, 0), (.isub, 0, 0, 0), (.aload_n 1, 0, 0, 0)]
theorem k_M_isWord_8_6 : bok m_M_isWord 8 b_M_isWord_8_6 = true := by decide +kernel
def b_M_isWord_24_1 : List Ins := [(.iconst (1), 0, 0, 0)]
theorem k_M_isWord_24_1 : bok m_M_isWord 24 b_M_isWord_24_1 = true := by decide +kernel
def b_M_isWord_29_3 : List Ins := [(.istore_n 2, 0, 0, 0), (.iconst (0), 0, 0, 0), (.istore_n 3, 0, 0, 0)]
theorem k_M_isWord_29_3 : bok m_M_isWord 29 b_M_isWord_29_3 = true := by decide +kernel
theorem d_M_isWord_5 : decode m_M_isWord.2.1 5 = .ok (.if_icmp .ne (23), 3) := by decide +kernel
theorem d_M_isWord_34 : decode m_M_isWord.2.1 34 = .ok (.invokevirtual 204, 3) := by decide +kernel
theorem d_M_isWord_37 : decode m_M_isWord.2.1 37 = .ok (.if_icmp .ge (38), 3) := by decide +kernel
theorem d_M_isWord_76 : decode m_M_isWord.2.1 76 = .ok (.ireturn, 1) := by decide +kernel
theorem d_M_isWord_41 : decode m_M_isWord.2.1 41 = .ok (.ifCond .eq (34), 3) := by decide +kernel
theorem d_M_isWord_57 : decode m_M_isWord.2.1 57 = .ok (.invokevirtual 208, 3) := by decide +kernel
theorem d_M_isWord_60 : decode m_M_isWord.2.1 60 = .ok (.if_icmp .ne (7), 3) := by decide +kernel
theorem d_M_isWord_72 : decode m_M_isWord.2.1 72 = .ok (.goto (-40), 3) := by decide +kernel
theorem d_M_isWord_64 : decode m_M_isWord.2.1 64 = .ok (.goto (4), 3) := by decide +kernel
theorem d_M_isWord_18 : decode m_M_isWord.2.1 18 = .ok (.invokevirtual 204, 3) := by decide +kernel
theorem d_M_isWord_21 : decode m_M_isWord.2.1 21 = .ok (.if_icmp .ne (7), 3) := by decide +kernel
theorem d_M_isWord_25 : decode m_M_isWord.2.1 25 = .ok (.goto (4), 3) := by decide +kernel
def lp_M_isWord_32 (a1 : Nat)   : Nat → hs → Int32 → Int32 → Option (Int32 × hs)
  | 0, _, _, _ => none
  | n + 1, S, x2, x3 => bd (f_St_length  S a1) fun r2 S3 => (if r2 ≤ x3 then ck (isB x2) (some (x2, S3)) else (if x2 = 0 then ck (isB x2) (some (x2, S3)) else ck (inb ((gI S3 191 6) + x3) 200) (bd (f_St_charAt  S3 a1 x3) fun r10 S11 => (if (gI S3 194 (((gI S3 191 6) + x3)).toNatClampNeg) = r10 then lp_M_isWord_32 a1 n S11 (1 : Int32) (x3 + (1 : Int32)) else lp_M_isWord_32 a1 n S11 (0 : Int32) (x3 + (1 : Int32))))))
def f_M_isWord  (S : hs) (a1 : Nat) : Option (Int32 × hs) := (if (gI S 191 8) = (1 : Int32) then bd (f_St_length  S a1) fun r14 S15 => (if ((gI S 191 7) - (gI S 191 6)) = r14 then lp_M_isWord_32 a1 1000 S15 (1 : Int32) (0 : Int32) else lp_M_isWord_32 a1 1000 S15 (0 : Int32) (0 : Int32)) else lp_M_isWord_32 a1 1000 S (0 : Int32) (0 : Int32))
theorem lo_M_isWord_32 (w : Wd) (d : Nat) (c : cx) {n0 z0 : Nat} {z : Int32 × hs}   (a1 : Nat) (ha1 : a1 < 16)   :
    ∀ (n : Nat) (S : hs) (x2 : Int32) (x3 : Int32), lp_M_isWord_32 a1 n S x2 x3 = some z → J w (d + 6) m_M_isWord (n0, z0, some (.int z.1), mk c z.2) 32 [some (.ref 191), some (.ref a1), some (.int x2), some (.int x3)] [] (mk c S) := by
  intro n
  induction n with
  | zero => intro S x2 x3 H; cases H
  | succ n ih =>
    intro S x2 x3 H
    rw [lp_M_isWord_32] at H
    refine J.run b_M_isWord_32_2 k_M_isWord_32_2 rfl (show J w (d + 6) m_M_isWord (n0, z0, some (.int z.1), mk c z.2) 34 [some (.ref 191), some (.ref a1), some (.int x2), some (.int x3)] [.ref a1, .int x3] (mk c S) from ?_)
    obtain ⟨r2, S3, h4, H⟩ := bd_e H
    refine J.callV (y := m_St_length) (av := []) (rest := [.int x3]) (q := a1) l_M_204 d_M_isWord_34 (Or.inr ⟨ha1, rfl⟩) (c_St_length w (d + 3) c  S a1 ha1 h4) rfl (Nat.le_of_ble_eq_true rfl) ⟨Nat.le_refl _, Nat.le_refl _⟩ (show J w (d + 6) m_M_isWord (n0, z0, some (.int z.1), mk c z.2) 37 [some (.ref 191), some (.ref a1), some (.int x2), some (.int x3)] [.int r2, .int x3] (mk c S3) from ?_)
    refine J.cge (tgt := 75) d_M_isWord_37 rfl (fun q5 => ?_) (fun q5 => ?_)
    · have H := ite_t H q5
      refine J.run b_M_isWord_75_1 k_M_isWord_75_1 rfl (show J w (d + 6) m_M_isWord (n0, z0, some (.int z.1), mk c z.2) 76 [some (.ref 191), some (.ref a1), some (.int x2), some (.int x3)] [.int x2] (mk c S3) from ?_)
      obtain ⟨g6, H⟩ := ck_e H
      obtain rfl := some_e H
      exact J.nret d_M_isWord_76 rfl (isB_n g6) rfl
    · have H := ite_f H q5
      refine J.run b_M_isWord_40_1 k_M_isWord_40_1 rfl (show J w (d + 6) m_M_isWord (n0, z0, some (.int z.1), mk c z.2) 41 [some (.ref 191), some (.ref a1), some (.int x2), some (.int x3)] [.int x2] (mk c S3) from ?_)
      refine J.zeq (tgt := 75) d_M_isWord_41 rfl (fun q7 => ?_) (fun q7 => ?_)
      · have H := ite_t H q7
        refine J.run b_M_isWord_75_1 k_M_isWord_75_1 rfl (show J w (d + 6) m_M_isWord (n0, z0, some (.int z.1), mk c z.2) 76 [some (.ref 191), some (.ref a1), some (.int x2), some (.int x3)] [.int x2] (mk c S3) from ?_)
        obtain ⟨g8, H⟩ := ck_e H
        obtain rfl := some_e H
        exact J.nret d_M_isWord_76 rfl (isB_n g8) rfl
      · have H := ite_f H q7
        obtain ⟨g9, H⟩ := ck_e H
        refine J.run b_M_isWord_44_9 k_M_isWord_44_9 rfl (And.intro (okO_st (S := S3) rfl) (And.intro (okO_st (S := S3) rfl) (And.intro (okA_st (S := S3) (n := 200) rfl g9) (show J w (d + 6) m_M_isWord (n0, z0, some (.int z.1), mk c z.2) 57 [some (.ref 191), some (.ref a1), some (.int x2), some (.int x3)] [.int x3, .ref a1, .int (gI S3 194 (((gI S3 191 6) + x3)).toNatClampNeg)] (mk c S3) from ?_))))
        obtain ⟨r10, S11, h12, H⟩ := bd_e H
        refine J.callV (y := m_St_charAt) (av := [.int x3]) (rest := [.int (gI S3 194 (((gI S3 191 6) + x3)).toNatClampNeg)]) (q := a1) l_M_208 d_M_isWord_57 (Or.inr ⟨ha1, rfl⟩) (c_St_charAt w (d + 0) c  S3 a1 x3 ha1 h12) rfl (Nat.le_of_ble_eq_true rfl) ⟨Nat.le_refl _, Nat.le_refl _⟩ (show J w (d + 6) m_M_isWord (n0, z0, some (.int z.1), mk c z.2) 60 [some (.ref 191), some (.ref a1), some (.int x2), some (.int x3)] [.int r10, .int (gI S3 194 (((gI S3 191 6) + x3)).toNatClampNeg)] (mk c S11) from ?_)
        refine J.cne (tgt := 67) d_M_isWord_60 rfl (fun q13 => ?_) (fun q13 => ?_)
        · have H := ite_f H q13
          refine J.run b_M_isWord_67_3 k_M_isWord_67_3 rfl (show J w (d + 6) m_M_isWord (n0, z0, some (.int z.1), mk c z.2) 72 [some (.ref 191), some (.ref a1), some (.int (0 : Int32)), some (.int (x3 + (1 : Int32)))] [] (mk c S11) from ?_)
          refine J.goto (tgt := 32) d_M_isWord_72 rfl ?_
          refine J.mask [true, true, true, true] ?_
          exact ih S11 (0 : Int32) (x3 + (1 : Int32)) H
        · have H := ite_t H q13
          refine J.run b_M_isWord_63_1 k_M_isWord_63_1 rfl (show J w (d + 6) m_M_isWord (n0, z0, some (.int z.1), mk c z.2) 64 [some (.ref 191), some (.ref a1), some (.int x2), some (.int x3)] [.int (1 : Int32)] (mk c S11) from ?_)
          refine J.goto (tgt := 68) d_M_isWord_64 rfl ?_
          refine J.run b_M_isWord_68_2 k_M_isWord_68_2 rfl (show J w (d + 6) m_M_isWord (n0, z0, some (.int z.1), mk c z.2) 72 [some (.ref 191), some (.ref a1), some (.int (1 : Int32)), some (.int (x3 + (1 : Int32)))] [] (mk c S11) from ?_)
          refine J.goto (tgt := 32) d_M_isWord_72 rfl ?_
          refine J.mask [true, true, true, true] ?_
          exact ih S11 (1 : Int32) (x3 + (1 : Int32)) H
theorem c_M_isWord (w : Wd) (d : Nat) (c : cx)   (S : hs) (a1 : Nat) (ha1 : a1 < 16) {z : Int32 × hs} (H : f_M_isWord S a1 = some z) : Cl w (d + 6) m_M_isWord [.ref 191, .ref a1] (mk c S) (some (.int z.1)) (mk c z.2) := by
  refine Cl.of (Nat.le_refl _) (Nat.le_refl _) (by decide +kernel) (Nat.le_of_ble_eq_true rfl) ?_
  unfold f_M_isWord at H
  generalize hN (mk c S) = n0
  generalize hZ (mk c S) = z0
  show J w (d + 6) m_M_isWord (n0, z0, some (.int z.1), mk c z.2) 0 [some (.ref 191), some (.ref a1), none, none] [] (mk c S)
  refine J.run b_M_isWord_0_3 k_M_isWord_0_3 rfl (And.intro (okO_st (S := S) rfl) (show J w (d + 6) m_M_isWord (n0, z0, some (.int z.1), mk c z.2) 5 [some (.ref 191), some (.ref a1), none, none] [.int (1 : Int32), .int (gI S 191 8)] (mk c S) from ?_))
  refine J.cne (tgt := 28) d_M_isWord_5 rfl (fun q1 => ?_) (fun q1 => ?_)
  · have H := ite_f H q1
    refine J.run b_M_isWord_28_4 k_M_isWord_28_4 rfl (show J w (d + 6) m_M_isWord (n0, z0, some (.int z.1), mk c z.2) 32 [some (.ref 191), some (.ref a1), some (.int (0 : Int32)), some (.int (0 : Int32))] [] (mk c S) from ?_)
    refine J.mask [true, true, true, true] ?_
    refine lo_M_isWord_32 w d c a1 ha1  1000 S (0 : Int32) (0 : Int32) H
  · have H := ite_t H q1
    refine J.run b_M_isWord_8_6 k_M_isWord_8_6 rfl (And.intro (okO_st (S := S) rfl) (And.intro (okO_st (S := S) rfl) (show J w (d + 6) m_M_isWord (n0, z0, some (.int z.1), mk c z.2) 18 [some (.ref 191), some (.ref a1), none, none] [.ref a1, .int ((gI S 191 7) - (gI S 191 6))] (mk c S) from ?_)))
    obtain ⟨r14, S15, h16, H⟩ := bd_e H
    refine J.callV (y := m_St_length) (av := []) (rest := [.int ((gI S 191 7) - (gI S 191 6))]) (q := a1) l_M_204 d_M_isWord_18 (Or.inr ⟨ha1, rfl⟩) (c_St_length w (d + 3) c  S a1 ha1 h16) rfl (Nat.le_of_ble_eq_true rfl) ⟨Nat.le_refl _, Nat.le_refl _⟩ (show J w (d + 6) m_M_isWord (n0, z0, some (.int z.1), mk c z.2) 21 [some (.ref 191), some (.ref a1), none, none] [.int r14, .int ((gI S 191 7) - (gI S 191 6))] (mk c S15) from ?_)
    refine J.cne (tgt := 28) d_M_isWord_21 rfl (fun q17 => ?_) (fun q17 => ?_)
    · have H := ite_f H q17
      refine J.run b_M_isWord_28_4 k_M_isWord_28_4 rfl (show J w (d + 6) m_M_isWord (n0, z0, some (.int z.1), mk c z.2) 32 [some (.ref 191), some (.ref a1), some (.int (0 : Int32)), some (.int (0 : Int32))] [] (mk c S15) from ?_)
      refine J.mask [true, true, true, true] ?_
      refine lo_M_isWord_32 w d c a1 ha1  1000 S15 (0 : Int32) (0 : Int32) H
    · have H := ite_t H q17
      refine J.run b_M_isWord_24_1 k_M_isWord_24_1 rfl (show J w (d + 6) m_M_isWord (n0, z0, some (.int z.1), mk c z.2) 25 [some (.ref 191), some (.ref a1), none, none] [.int (1 : Int32)] (mk c S15) from ?_)
      refine J.goto (tgt := 29) d_M_isWord_25 rfl ?_
      refine J.run b_M_isWord_29_3 k_M_isWord_29_3 rfl (show J w (d + 6) m_M_isWord (n0, z0, some (.int z.1), mk c z.2) 32 [some (.ref 191), some (.ref a1), some (.int (1 : Int32)), some (.int (0 : Int32))] [] (mk c S15) from ?_)
      refine J.mask [true, true, true, true] ?_
      refine lo_M_isWord_32 w d c a1 ha1  1000 S15 (1 : Int32) (0 : Int32) H
def b_M_isSign_0_3 : List Ins := [(.aload_n 0, 0, 0, 0), (.getfield 195, 11, 8, 0), (.iconst (3), 0, 0, 0)]
theorem k_M_isSign_0_3 : bok m_M_isSign 0 b_M_isSign_0_3 = true := by decide +kernel
def b_M_isSign_25_1 : List Ins := [(.iconst (0), 0, 0, 0)]
theorem k_M_isSign_25_1 : bok m_M_isSign 25 b_M_isSign_25_1 = true := by decide +kernel
def b_M_isSign_8_6 : List Ins := [(.aload_n 0, 0, 0, 0), (.getfield 20, 11, 4, 2), (.aload_n 0, 0, 0, 0), (.getfield 189, 11, 6, 0), (.iaload, 0, 0, 0), (.iload_n 1, 0, 0, 0)]
theorem k_M_isSign_8_6 : bok m_M_isSign 8 b_M_isSign_8_6 = true := by decide +kernel
def b_M_isSign_21_1 : List Ins := [(.iconst (1), 0, 0, 0)]
theorem k_M_isSign_21_1 : bok m_M_isSign 21 b_M_isSign_21_1 = true := by decide +kernel
theorem d_M_isSign_5 : decode m_M_isSign.2.1 5 = .ok (.if_icmp .ne (20), 3) := by decide +kernel
theorem d_M_isSign_26 : decode m_M_isSign.2.1 26 = .ok (.ireturn, 1) := by decide +kernel
theorem d_M_isSign_18 : decode m_M_isSign.2.1 18 = .ok (.if_icmp .ne (7), 3) := by decide +kernel
theorem d_M_isSign_22 : decode m_M_isSign.2.1 22 = .ok (.goto (4), 3) := by decide +kernel
def f_M_isSign  (S : hs) (x1 : Int32) : Option (Int32 × hs) := (if (gI S 191 8) = (3 : Int32) then ck (inb (gI S 191 6) 200) ((if (gI S 194 ((gI S 191 6)).toNatClampNeg) = x1 then some ((1 : Int32), S) else some ((0 : Int32), S))) else some ((0 : Int32), S))
theorem c_M_isSign (w : Wd) (d : Nat) (c : cx)   (S : hs) (x1 : Int32)  {z : Int32 × hs} (H : f_M_isSign S x1 = some z) : Cl w (d + 1) m_M_isSign [.ref 191, .int x1] (mk c S) (some (.int z.1)) (mk c z.2) := by
  refine Cl.of (Nat.le_refl _) (Nat.le_refl _) (by decide +kernel) (Nat.le_of_ble_eq_true rfl) ?_
  unfold f_M_isSign at H
  generalize hN (mk c S) = n0
  generalize hZ (mk c S) = z0
  show J w (d + 1) m_M_isSign (n0, z0, some (.int z.1), mk c z.2) 0 [some (.ref 191), some (.int x1)] [] (mk c S)
  refine J.run b_M_isSign_0_3 k_M_isSign_0_3 rfl (And.intro (okO_st (S := S) rfl) (show J w (d + 1) m_M_isSign (n0, z0, some (.int z.1), mk c z.2) 5 [some (.ref 191), some (.int x1)] [.int (3 : Int32), .int (gI S 191 8)] (mk c S) from ?_))
  refine J.cne (tgt := 25) d_M_isSign_5 rfl (fun q1 => ?_) (fun q1 => ?_)
  · have H := ite_f H q1
    refine J.run b_M_isSign_25_1 k_M_isSign_25_1 rfl (show J w (d + 1) m_M_isSign (n0, z0, some (.int z.1), mk c z.2) 26 [some (.ref 191), some (.int x1)] [.int (0 : Int32)] (mk c S) from ?_)
    obtain rfl := some_e H
    exact J.nret d_M_isSign_26 rfl rfl rfl
  · have H := ite_t H q1
    obtain ⟨g2, H⟩ := ck_e H
    refine J.run b_M_isSign_8_6 k_M_isSign_8_6 rfl (And.intro (okO_st (S := S) rfl) (And.intro (okO_st (S := S) rfl) (And.intro (okA_st (S := S) (n := 200) rfl g2) (show J w (d + 1) m_M_isSign (n0, z0, some (.int z.1), mk c z.2) 18 [some (.ref 191), some (.int x1)] [.int x1, .int (gI S 194 ((gI S 191 6)).toNatClampNeg)] (mk c S) from ?_))))
    refine J.cne (tgt := 25) d_M_isSign_18 rfl (fun q3 => ?_) (fun q3 => ?_)
    · have H := ite_f H q3
      refine J.run b_M_isSign_25_1 k_M_isSign_25_1 rfl (show J w (d + 1) m_M_isSign (n0, z0, some (.int z.1), mk c z.2) 26 [some (.ref 191), some (.int x1)] [.int (0 : Int32)] (mk c S) from ?_)
      obtain rfl := some_e H
      exact J.nret d_M_isSign_26 rfl rfl rfl
    · have H := ite_t H q3
      refine J.run b_M_isSign_21_1 k_M_isSign_21_1 rfl (show J w (d + 1) m_M_isSign (n0, z0, some (.int z.1), mk c z.2) 22 [some (.ref 191), some (.int x1)] [.int (1 : Int32)] (mk c S) from ?_)
      refine J.goto (tgt := 26) d_M_isSign_22 rfl ?_
      obtain rfl := some_e H
      exact J.nret d_M_isSign_26 rfl rfl rfl
def b_M_tells_0_2 : List Ins := [(.aload_n 0, 0, 0, 0), (.getfield 212, 11, 9, 0)]
theorem k_M_tells_0_2 : bok m_M_tells 0 b_M_tells_0_2 = true := by decide +kernel
def b_M_tells_7_12 : List Ins := [(.aload_n 0, 0, 0, 0), (.getfield 23, 11, 11, 2), (.aload_n 0, 0, 0, 0), (.getfield 219, 11, 12, 0), (.iload_n 1, 0, 0, 0), (.iastore, 0, 0, 0), (.aload_n 0, 0, 0, 0), (.dup, 0, 0, 0), (.getfield 219, 11, 12, 0), (.iconst (1), 0, 0, 0), (.iadd, 0, 0, 0), (.putfield 219, 11, 12, 0)]
theorem k_M_tells_7_12 : bok m_M_tells 7 b_M_tells_7_12 = true := by decide +kernel
theorem d_M_tells_4 : decode m_M_tells.2.1 4 = .ok (.ifCond .ne (23), 3) := by decide +kernel
theorem d_M_tells_27 : decode m_M_tells.2.1 27 = .ok (.return_, 1) := by decide +kernel
def f_M_tells  (S : hs) (x1 : Int32) : Option (Int32 × hs) := (if (gI S 191 9) = 0 then ck (inb (gI S 191 12) 200) (some ((0 : Int32), (uI (uI S 195 ((gI S 191 12)).toNatClampNeg x1) 191 12 ((gI (uI S 195 ((gI S 191 12)).toNatClampNeg x1) 191 12) + (1 : Int32))))) else some ((0 : Int32), S))
theorem c_M_tells (w : Wd) (d : Nat) (c : cx)   (S : hs) (x1 : Int32)  {z : Int32 × hs} (H : f_M_tells S x1 = some z) : Cl w (d + 1) m_M_tells [.ref 191, .int x1] (mk c S) (none) (mk c z.2) := by
  refine Cl.of (Nat.le_refl _) (Nat.le_refl _) (by decide +kernel) (Nat.le_of_ble_eq_true rfl) ?_
  unfold f_M_tells at H
  generalize hN (mk c S) = n0
  generalize hZ (mk c S) = z0
  show J w (d + 1) m_M_tells (n0, z0, none, mk c z.2) 0 [some (.ref 191), some (.int x1)] [] (mk c S)
  refine J.run b_M_tells_0_2 k_M_tells_0_2 rfl (And.intro (okO_st (S := S) rfl) (show J w (d + 1) m_M_tells (n0, z0, none, mk c z.2) 4 [some (.ref 191), some (.int x1)] [.int (gI S 191 9)] (mk c S) from ?_))
  refine J.zne (tgt := 27) d_M_tells_4 rfl (fun q1 => ?_) (fun q1 => ?_)
  · have H := ite_f H q1
    obtain rfl := some_e H
    exact J.vret d_M_tells_27 rfl rfl
  · have H := ite_t H q1
    obtain ⟨g2, H⟩ := ck_e H
    refine J.run b_M_tells_7_12 k_M_tells_7_12 rfl (And.intro (okO_st (S := S) rfl) (And.intro (okO_st (S := S) rfl) (And.intro (okB_st (S := S) (n := 200) rfl g2) (And.intro (okO_st (S := (uI S 195 ((gI S 191 12)).toNatClampNeg x1)) rfl) (And.intro (okO_st (S := (uI S 195 ((gI S 191 12)).toNatClampNeg x1)) rfl) (show J w (d + 1) m_M_tells (n0, z0, none, mk c z.2) 27 [some (.ref 191), some (.int x1)] [] (mk c (uI (uI S 195 ((gI S 191 12)).toNatClampNeg x1) 191 12 ((gI (uI S 195 ((gI S 191 12)).toNatClampNeg x1) 191 12) + (1 : Int32)))) from ?_))))))
    obtain rfl := some_e H
    exact J.vret d_M_tells_27 rfl rfl
def b_M_next_0_4 : List Ins := [(.aload_n 0, 0, 0, 0), (.aload_n 0, 0, 0, 0), (.getfield 186, 11, 7, 0), (.putfield 189, 11, 6, 0)]
theorem k_M_next_0_4 : bok m_M_next 0 b_M_next_0_4 = true := by decide +kernel
def b_M_next_8_3 : List Ins := [(.aload_n 0, 0, 0, 0), (.aload_n 0, 0, 0, 0), (.getfield 189, 11, 6, 0)]
theorem k_M_next_8_3 : bok m_M_next 8 b_M_next_8_3 = true := by decide +kernel
def b_M_next_16_1 : List Ins := [(.bipush (32), 0, 0, 0)]
theorem k_M_next_16_1 : bok m_M_next 16 b_M_next_16_1 = true := by decide +kernel
def b_M_next_21_6 : List Ins := [(.aload_n 0, 0, 0, 0), (.dup, 0, 0, 0), (.getfield 189, 11, 6, 0), (.iconst (1), 0, 0, 0), (.iadd, 0, 0, 0), (.putfield 189, 11, 6, 0)]
theorem k_M_next_21_6 : bok m_M_next 21 b_M_next_21_6 = true := by decide +kernel
def b_M_next_34_3 : List Ins := [(.aload_n 0, 0, 0, 0), (.aload_n 0, 0, 0, 0), (.getfield 189, 11, 6, 0)]
theorem k_M_next_34_3 : bok m_M_next 34 b_M_next_34_3 = true := by decide +kernel
def b_M_next_42_6 : List Ins := [(.istore_n 1, 0, 0, 0), (.aload_n 0, 0, 0, 0), (.aload_n 0, 0, 0, 0), (.getfield 189, 11, 6, 0), (.putfield 186, 11, 7, 0), (.iload_n 1, 0, 0, 0)]
theorem k_M_next_42_6 : bok m_M_next 42 b_M_next_42_6 = true := by decide +kernel
def b_M_next_63_1 : List Ins := [(.iload_n 1, 0, 0, 0)]
theorem k_M_next_63_1 : bok m_M_next 63 b_M_next_63_1 = true := by decide +kernel
def b_M_next_102_1 : List Ins := [(.iload_n 1, 0, 0, 0)]
theorem k_M_next_102_1 : bok m_M_next 102 b_M_next_102_1 = true := by decide +kernel
def b_M_next_141_9 : List Ins := [(.aload_n 0, 0, 0, 0), (.iconst (3), 0, 0, 0), (.putfield 195, 11, 8, 0), (.aload_n 0, 0, 0, 0), (.dup, 0, 0, 0), (.getfield 186, 11, 7, 0), (.iconst (1), 0, 0, 0), (.iadd, 0, 0, 0), (.putfield 186, 11, 7, 0)]
theorem k_M_next_141_9 : bok m_M_next 141 b_M_next_141_9 = true := by decide +kernel
def b_M_next_109_3 : List Ins := [(.aload_n 0, 0, 0, 0), (.iconst (2), 0, 0, 0), (.putfield 195, 11, 8, 0)]
theorem k_M_next_109_3 : bok m_M_next 109 b_M_next_109_3 = true := by decide +kernel
def b_M_next_114_3 : List Ins := [(.aload_n 0, 0, 0, 0), (.aload_n 0, 0, 0, 0), (.getfield 186, 11, 7, 0)]
theorem k_M_next_114_3 : bok m_M_next 114 b_M_next_114_3 = true := by decide +kernel
def b_M_next_128_6 : List Ins := [(.aload_n 0, 0, 0, 0), (.dup, 0, 0, 0), (.getfield 186, 11, 7, 0), (.iconst (1), 0, 0, 0), (.iadd, 0, 0, 0), (.putfield 186, 11, 7, 0)]
theorem k_M_next_128_6 : bok m_M_next 128 b_M_next_128_6 = true := by decide +kernel
def b_M_next_70_3 : List Ins := [(.aload_n 0, 0, 0, 0), (.iconst (1), 0, 0, 0), (.putfield 195, 11, 8, 0)]
theorem k_M_next_70_3 : bok m_M_next 70 b_M_next_70_3 = true := by decide +kernel
def b_M_next_75_3 : List Ins := [(.aload_n 0, 0, 0, 0), (.aload_n 0, 0, 0, 0), (.getfield 186, 11, 7, 0)]
theorem k_M_next_75_3 : bok m_M_next 75 b_M_next_75_3 = true := by decide +kernel
def b_M_next_89_6 : List Ins := [(.aload_n 0, 0, 0, 0), (.dup, 0, 0, 0), (.getfield 186, 11, 7, 0), (.iconst (1), 0, 0, 0), (.iadd, 0, 0, 0), (.putfield 186, 11, 7, 0)]
theorem k_M_next_89_6 : bok m_M_next 89 b_M_next_89_6 = true := by decide +kernel
def b_M_next_55_3 : List Ins := [(.aload_n 0, 0, 0, 0), (.iconst (0), 0, 0, 0), (.putfield 195, 11, 8, 0)]
theorem k_M_next_55_3 : bok m_M_next 55 b_M_next_55_3 = true := by decide +kernel
theorem d_M_next_13 : decode m_M_next.2.1 13 = .ok (.invokevirtual 192, 3) := by decide +kernel
theorem d_M_next_18 : decode m_M_next.2.1 18 = .ok (.if_icmp .ne (16), 3) := by decide +kernel
theorem d_M_next_31 : decode m_M_next.2.1 31 = .ok (.goto (-23), 3) := by decide +kernel
theorem d_M_next_39 : decode m_M_next.2.1 39 = .ok (.invokevirtual 192, 3) := by decide +kernel
theorem d_M_next_52 : decode m_M_next.2.1 52 = .ok (.ifCond .ge (11), 3) := by decide +kernel
theorem d_M_next_64 : decode m_M_next.2.1 64 = .ok (.invokestatic 198, 3) := by decide +kernel
theorem d_M_next_67 : decode m_M_next.2.1 67 = .ok (.ifCond .eq (35), 3) := by decide +kernel
theorem d_M_next_103 : decode m_M_next.2.1 103 = .ok (.invokestatic 201, 3) := by decide +kernel
theorem d_M_next_106 : decode m_M_next.2.1 106 = .ok (.ifCond .eq (35), 3) := by decide +kernel
theorem d_M_next_156 : decode m_M_next.2.1 156 = .ok (.return_, 1) := by decide +kernel
theorem d_M_next_119 : decode m_M_next.2.1 119 = .ok (.invokevirtual 192, 3) := by decide +kernel
theorem d_M_next_122 : decode m_M_next.2.1 122 = .ok (.invokestatic 201, 3) := by decide +kernel
theorem d_M_next_125 : decode m_M_next.2.1 125 = .ok (.ifCond .eq (31), 3) := by decide +kernel
theorem d_M_next_138 : decode m_M_next.2.1 138 = .ok (.goto (-24), 3) := by decide +kernel
theorem d_M_next_80 : decode m_M_next.2.1 80 = .ok (.invokevirtual 192, 3) := by decide +kernel
theorem d_M_next_83 : decode m_M_next.2.1 83 = .ok (.invokestatic 198, 3) := by decide +kernel
theorem d_M_next_86 : decode m_M_next.2.1 86 = .ok (.ifCond .eq (70), 3) := by decide +kernel
theorem d_M_next_99 : decode m_M_next.2.1 99 = .ok (.goto (-24), 3) := by decide +kernel
theorem d_M_next_60 : decode m_M_next.2.1 60 = .ok (.goto (96), 3) := by decide +kernel
def lp_M_next_8   (K0 : hs → Option (Int32 × hs)) : Nat → hs → Option (Int32 × hs)
  | 0, _ => none
  | n + 1, S => bd (f_M_byteAt  S (gI S 191 6)) fun r1 S2 => (if r1 = (32 : Int32) then lp_M_next_8 K0 n (uI S2 191 6 ((gI S2 191 6) + (1 : Int32))) else K0 S2)
def lp_M_next_114    : Nat → hs → Option (Int32 × hs)
  | 0, _ => none
  | n + 1, S => bd (f_M_byteAt  S (gI S 191 7)) fun r18 S19 => bd (f_M_isDigit  S19 r18) fun r21 S22 => (if r21 = 0 then some ((0 : Int32), S22) else lp_M_next_114  n (uI S22 191 7 ((gI S22 191 7) + (1 : Int32))))
def lp_M_next_75    : Nat → hs → Option (Int32 × hs)
  | 0, _ => none
  | n + 1, S => bd (f_M_byteAt  S (gI S 191 7)) fun r25 S26 => bd (f_M_isLetter  S26 r25) fun r28 S29 => (if r28 = 0 then some ((0 : Int32), S29) else lp_M_next_75  n (uI S29 191 7 ((gI S29 191 7) + (1 : Int32))))
def f_M_next  (S : hs)  : Option (Int32 × hs) := lp_M_next_8 (fun (S5 : hs)  => bd (f_M_byteAt  S5 (gI S5 191 6)) fun r6 S7 => (if 0 ≤ r6 then bd (f_M_isLetter  (uI S7 191 7 (gI S7 191 6)) r6) fun r10 S11 => (if r10 = 0 then bd (f_M_isDigit  S11 r6) fun r14 S15 => (if r14 = 0 then some ((0 : Int32), (uI (uI S15 191 8 (3 : Int32)) 191 7 ((gI (uI S15 191 8 (3 : Int32)) 191 7) + (1 : Int32)))) else lp_M_next_114  1000 (uI S15 191 8 (2 : Int32))) else lp_M_next_75  1000 (uI S11 191 8 (1 : Int32))) else some ((0 : Int32), (uI (uI S7 191 7 (gI S7 191 6)) 191 8 (0 : Int32))))) 1000 (uI S 191 6 (gI S 191 7))
theorem lo_M_next_8 (w : Wd) (d : Nat) (c : cx) {n0 z0 : Nat} {z : Int32 × hs}  {K0 : hs → Option (Int32 × hs)}    (hK0 : ∀ (S : hs) , K0 S  = some z → J w (d + 3) m_M_next (n0, z0, none, mk c z.2) 34 [some (.ref 191), none] [] (mk c S)) :
    ∀ (n : Nat) (S : hs) , lp_M_next_8 K0 n S = some z → J w (d + 3) m_M_next (n0, z0, none, mk c z.2) 8 [some (.ref 191), none] [] (mk c S) := by
  intro n
  induction n with
  | zero => intro S H; cases H
  | succ n ih =>
    intro S H
    rw [lp_M_next_8] at H
    refine J.run b_M_next_8_3 k_M_next_8_3 rfl (And.intro (okO_st (S := S) rfl) (show J w (d + 3) m_M_next (n0, z0, none, mk c z.2) 13 [some (.ref 191), none] [.int (gI S 191 6), .ref 191] (mk c S) from ?_))
    obtain ⟨r1, S2, h3, H⟩ := bd_e H
    refine J.callV (y := m_M_byteAt) (av := [.int (gI S 191 6)]) (rest := []) (q := 191) l_M_192 d_M_next_13 (isC_st rfl rfl) (c_M_byteAt w (d + 1) c  S (gI S 191 6) h3) rfl (Nat.le_of_ble_eq_true rfl) ⟨Nat.le_refl _, Nat.le_refl _⟩ (show J w (d + 3) m_M_next (n0, z0, none, mk c z.2) 16 [some (.ref 191), none] [.int r1] (mk c S2) from ?_)
    refine J.run b_M_next_16_1 k_M_next_16_1 rfl (show J w (d + 3) m_M_next (n0, z0, none, mk c z.2) 18 [some (.ref 191), none] [.int (32 : Int32), .int r1] (mk c S2) from ?_)
    refine J.cne (tgt := 34) d_M_next_18 rfl (fun q4 => ?_) (fun q4 => ?_)
    · have H := ite_f H q4
      refine J.mask [true, false] ?_
      exact hK0 S2 H
    · have H := ite_t H q4
      refine J.run b_M_next_21_6 k_M_next_21_6 rfl (And.intro (okO_st (S := S2) rfl) (And.intro (okO_st (S := S2) rfl) (show J w (d + 3) m_M_next (n0, z0, none, mk c z.2) 31 [some (.ref 191), none] [] (mk c (uI S2 191 6 ((gI S2 191 6) + (1 : Int32)))) from ?_)))
      refine J.goto (tgt := 8) d_M_next_31 rfl ?_
      refine J.mask [true, false] ?_
      exact ih (uI S2 191 6 ((gI S2 191 6) + (1 : Int32))) H
theorem lo_M_next_114 (w : Wd) (d : Nat) (c : cx) {n0 z0 : Nat} {z : Int32 × hs}       :
    ∀ (n : Nat) (S : hs) , lp_M_next_114  n S = some z → J w (d + 3) m_M_next (n0, z0, none, mk c z.2) 114 [some (.ref 191), none] [] (mk c S) := by
  intro n
  induction n with
  | zero => intro S H; cases H
  | succ n ih =>
    intro S H
    rw [lp_M_next_114] at H
    refine J.run b_M_next_114_3 k_M_next_114_3 rfl (And.intro (okO_st (S := S) rfl) (show J w (d + 3) m_M_next (n0, z0, none, mk c z.2) 119 [some (.ref 191), none] [.int (gI S 191 7), .ref 191] (mk c S) from ?_))
    obtain ⟨r18, S19, h20, H⟩ := bd_e H
    refine J.callV (y := m_M_byteAt) (av := [.int (gI S 191 7)]) (rest := []) (q := 191) l_M_192 d_M_next_119 (isC_st rfl rfl) (c_M_byteAt w (d + 1) c  S (gI S 191 7) h20) rfl (Nat.le_of_ble_eq_true rfl) ⟨Nat.le_refl _, Nat.le_refl _⟩ (show J w (d + 3) m_M_next (n0, z0, none, mk c z.2) 122 [some (.ref 191), none] [.int r18] (mk c S19) from ?_)
    obtain ⟨r21, S22, h23, H⟩ := bd_e H
    refine J.callS (y := m_M_isDigit) (av := [.int r18]) (rest := []) l_M_201 d_M_next_122 (c_M_isDigit w (d + 0) c  S19 r18 h23) rfl (Nat.le_of_ble_eq_true rfl) ⟨Nat.le_refl _, Nat.le_refl _⟩ (show J w (d + 3) m_M_next (n0, z0, none, mk c z.2) 125 [some (.ref 191), none] [.int r21] (mk c S22) from ?_)
    refine J.zeq (tgt := 156) d_M_next_125 rfl (fun q24 => ?_) (fun q24 => ?_)
    · have H := ite_t H q24
      obtain rfl := some_e H
      exact J.vret d_M_next_156 rfl rfl
    · have H := ite_f H q24
      refine J.run b_M_next_128_6 k_M_next_128_6 rfl (And.intro (okO_st (S := S22) rfl) (And.intro (okO_st (S := S22) rfl) (show J w (d + 3) m_M_next (n0, z0, none, mk c z.2) 138 [some (.ref 191), none] [] (mk c (uI S22 191 7 ((gI S22 191 7) + (1 : Int32)))) from ?_)))
      refine J.goto (tgt := 114) d_M_next_138 rfl ?_
      refine J.mask [true, false] ?_
      exact ih (uI S22 191 7 ((gI S22 191 7) + (1 : Int32))) H
theorem lo_M_next_75 (w : Wd) (d : Nat) (c : cx) {n0 z0 : Nat} {z : Int32 × hs}       :
    ∀ (n : Nat) (S : hs) , lp_M_next_75  n S = some z → J w (d + 3) m_M_next (n0, z0, none, mk c z.2) 75 [some (.ref 191), none] [] (mk c S) := by
  intro n
  induction n with
  | zero => intro S H; cases H
  | succ n ih =>
    intro S H
    rw [lp_M_next_75] at H
    refine J.run b_M_next_75_3 k_M_next_75_3 rfl (And.intro (okO_st (S := S) rfl) (show J w (d + 3) m_M_next (n0, z0, none, mk c z.2) 80 [some (.ref 191), none] [.int (gI S 191 7), .ref 191] (mk c S) from ?_))
    obtain ⟨r25, S26, h27, H⟩ := bd_e H
    refine J.callV (y := m_M_byteAt) (av := [.int (gI S 191 7)]) (rest := []) (q := 191) l_M_192 d_M_next_80 (isC_st rfl rfl) (c_M_byteAt w (d + 1) c  S (gI S 191 7) h27) rfl (Nat.le_of_ble_eq_true rfl) ⟨Nat.le_refl _, Nat.le_refl _⟩ (show J w (d + 3) m_M_next (n0, z0, none, mk c z.2) 83 [some (.ref 191), none] [.int r25] (mk c S26) from ?_)
    obtain ⟨r28, S29, h30, H⟩ := bd_e H
    refine J.callS (y := m_M_isLetter) (av := [.int r25]) (rest := []) l_M_198 d_M_next_83 (c_M_isLetter w (d + 0) c  S26 r25 h30) rfl (Nat.le_of_ble_eq_true rfl) ⟨Nat.le_refl _, Nat.le_refl _⟩ (show J w (d + 3) m_M_next (n0, z0, none, mk c z.2) 86 [some (.ref 191), none] [.int r28] (mk c S29) from ?_)
    refine J.zeq (tgt := 156) d_M_next_86 rfl (fun q31 => ?_) (fun q31 => ?_)
    · have H := ite_t H q31
      obtain rfl := some_e H
      exact J.vret d_M_next_156 rfl rfl
    · have H := ite_f H q31
      refine J.run b_M_next_89_6 k_M_next_89_6 rfl (And.intro (okO_st (S := S29) rfl) (And.intro (okO_st (S := S29) rfl) (show J w (d + 3) m_M_next (n0, z0, none, mk c z.2) 99 [some (.ref 191), none] [] (mk c (uI S29 191 7 ((gI S29 191 7) + (1 : Int32)))) from ?_)))
      refine J.goto (tgt := 75) d_M_next_99 rfl ?_
      refine J.mask [true, false] ?_
      exact ih (uI S29 191 7 ((gI S29 191 7) + (1 : Int32))) H
theorem c_M_next (w : Wd) (d : Nat) (c : cx)   (S : hs)   {z : Int32 × hs} (H : f_M_next S = some z) : Cl w (d + 3) m_M_next [.ref 191] (mk c S) (none) (mk c z.2) := by
  refine Cl.of (Nat.le_refl _) (Nat.le_refl _) (by decide +kernel) (Nat.le_of_ble_eq_true rfl) ?_
  unfold f_M_next at H
  generalize hN (mk c S) = n0
  generalize hZ (mk c S) = z0
  show J w (d + 3) m_M_next (n0, z0, none, mk c z.2) 0 [some (.ref 191), none] [] (mk c S)
  refine J.run b_M_next_0_4 k_M_next_0_4 rfl (And.intro (okO_st (S := S) rfl) (And.intro (okO_st (S := S) rfl) (show J w (d + 3) m_M_next (n0, z0, none, mk c z.2) 8 [some (.ref 191), none] [] (mk c (uI S 191 6 (gI S 191 7))) from ?_)))
  refine J.mask [true, false] ?_
  refine lo_M_next_8 w d c  ?_ 1000 (uI S 191 6 (gI S 191 7)) H
  · intro S5 H
    try dsimp only at H
    refine J.run b_M_next_34_3 k_M_next_34_3 rfl (And.intro (okO_st (S := S5) rfl) (show J w (d + 3) m_M_next (n0, z0, none, mk c z.2) 39 [some (.ref 191), none] [.int (gI S5 191 6), .ref 191] (mk c S5) from ?_))
    obtain ⟨r6, S7, h8, H⟩ := bd_e H
    refine J.callV (y := m_M_byteAt) (av := [.int (gI S5 191 6)]) (rest := []) (q := 191) l_M_192 d_M_next_39 (isC_st rfl rfl) (c_M_byteAt w (d + 1) c  S5 (gI S5 191 6) h8) rfl (Nat.le_of_ble_eq_true rfl) ⟨Nat.le_refl _, Nat.le_refl _⟩ (show J w (d + 3) m_M_next (n0, z0, none, mk c z.2) 42 [some (.ref 191), none] [.int r6] (mk c S7) from ?_)
    refine J.run b_M_next_42_6 k_M_next_42_6 rfl (And.intro (okO_st (S := S7) rfl) (And.intro (okO_st (S := S7) rfl) (show J w (d + 3) m_M_next (n0, z0, none, mk c z.2) 52 [some (.ref 191), some (.int r6)] [.int r6] (mk c (uI S7 191 7 (gI S7 191 6))) from ?_)))
    refine J.zge (tgt := 63) d_M_next_52 rfl (fun q9 => ?_) (fun q9 => ?_)
    · have H := ite_t H q9
      refine J.run b_M_next_63_1 k_M_next_63_1 rfl (show J w (d + 3) m_M_next (n0, z0, none, mk c z.2) 64 [some (.ref 191), some (.int r6)] [.int r6] (mk c (uI S7 191 7 (gI S7 191 6))) from ?_)
      obtain ⟨r10, S11, h12, H⟩ := bd_e H
      refine J.callS (y := m_M_isLetter) (av := [.int r6]) (rest := []) l_M_198 d_M_next_64 (c_M_isLetter w (d + 0) c  (uI S7 191 7 (gI S7 191 6)) r6 h12) rfl (Nat.le_of_ble_eq_true rfl) ⟨Nat.le_refl _, Nat.le_refl _⟩ (show J w (d + 3) m_M_next (n0, z0, none, mk c z.2) 67 [some (.ref 191), some (.int r6)] [.int r10] (mk c S11) from ?_)
      refine J.zeq (tgt := 102) d_M_next_67 rfl (fun q13 => ?_) (fun q13 => ?_)
      · have H := ite_t H q13
        refine J.run b_M_next_102_1 k_M_next_102_1 rfl (show J w (d + 3) m_M_next (n0, z0, none, mk c z.2) 103 [some (.ref 191), some (.int r6)] [.int r6] (mk c S11) from ?_)
        obtain ⟨r14, S15, h16, H⟩ := bd_e H
        refine J.callS (y := m_M_isDigit) (av := [.int r6]) (rest := []) l_M_201 d_M_next_103 (c_M_isDigit w (d + 0) c  S11 r6 h16) rfl (Nat.le_of_ble_eq_true rfl) ⟨Nat.le_refl _, Nat.le_refl _⟩ (show J w (d + 3) m_M_next (n0, z0, none, mk c z.2) 106 [some (.ref 191), some (.int r6)] [.int r14] (mk c S15) from ?_)
        refine J.zeq (tgt := 141) d_M_next_106 rfl (fun q17 => ?_) (fun q17 => ?_)
        · have H := ite_t H q17
          refine J.run b_M_next_141_9 k_M_next_141_9 rfl (And.intro (okO_st (S := S15) rfl) (And.intro (okO_st (S := (uI S15 191 8 (3 : Int32))) rfl) (And.intro (okO_st (S := (uI S15 191 8 (3 : Int32))) rfl) (show J w (d + 3) m_M_next (n0, z0, none, mk c z.2) 156 [some (.ref 191), some (.int r6)] [] (mk c (uI (uI S15 191 8 (3 : Int32)) 191 7 ((gI (uI S15 191 8 (3 : Int32)) 191 7) + (1 : Int32)))) from ?_))))
          obtain rfl := some_e H
          exact J.vret d_M_next_156 rfl rfl
        · have H := ite_f H q17
          refine J.run b_M_next_109_3 k_M_next_109_3 rfl (And.intro (okO_st (S := S15) rfl) (show J w (d + 3) m_M_next (n0, z0, none, mk c z.2) 114 [some (.ref 191), some (.int r6)] [] (mk c (uI S15 191 8 (2 : Int32))) from ?_))
          refine J.mask [true, false] ?_
          refine lo_M_next_114 w d c   1000 (uI S15 191 8 (2 : Int32)) H
      · have H := ite_f H q13
        refine J.run b_M_next_70_3 k_M_next_70_3 rfl (And.intro (okO_st (S := S11) rfl) (show J w (d + 3) m_M_next (n0, z0, none, mk c z.2) 75 [some (.ref 191), some (.int r6)] [] (mk c (uI S11 191 8 (1 : Int32))) from ?_))
        refine J.mask [true, false] ?_
        refine lo_M_next_75 w d c   1000 (uI S11 191 8 (1 : Int32)) H
    · have H := ite_f H q9
      refine J.run b_M_next_55_3 k_M_next_55_3 rfl (And.intro (okO_st (S := (uI S7 191 7 (gI S7 191 6))) rfl) (show J w (d + 3) m_M_next (n0, z0, none, mk c z.2) 60 [some (.ref 191), some (.int r6)] [] (mk c (uI (uI S7 191 7 (gI S7 191 6)) 191 8 (0 : Int32))) from ?_))
      refine J.goto (tgt := 156) d_M_next_60 rfl ?_
      obtain rfl := some_e H
      exact J.vret d_M_next_156 rfl rfl
def b_M_must_0_3 : List Ins := [(.aload_n 0, 0, 0, 0), (.aload_n 0, 0, 0, 0), (.getfield 212, 11, 9, 0)]
theorem k_M_must_0_3 : bok m_M_must 0 b_M_must_0_3 = true := by decide +kernel
def b_M_must_12_1 : List Ins := [(.iconst (1), 0, 0, 0)]
theorem k_M_must_12_1 : bok m_M_must 12 b_M_must_12_1 = true := by decide +kernel
def b_M_must_17_3 : List Ins := [(.putfield 212, 11, 9, 3), (.aload_n 0, 0, 0, 0), (.getfield 212, 11, 9, 0)]
theorem k_M_must_17_3 : bok m_M_must 17 b_M_must_17_3 = true := by decide +kernel
def b_M_must_27_1 : List Ins := [(.aload_n 0, 0, 0, 0)]
theorem k_M_must_27_1 : bok m_M_must 27 b_M_must_27_1 = true := by decide +kernel
def b_M_must_8_1 : List Ins := [(.iload_n 1, 0, 0, 0)]
theorem k_M_must_8_1 : bok m_M_must 8 b_M_must_8_1 = true := by decide +kernel
def b_M_must_16_4 : List Ins := [(.iconst (0), 0, 0, 0), (.putfield 212, 11, 9, 3), (.aload_n 0, 0, 0, 0), (.getfield 212, 11, 9, 0)]
theorem k_M_must_16_4 : bok m_M_must 16 b_M_must_16_4 = true := by decide +kernel
theorem d_M_must_5 : decode m_M_must.2.1 5 = .ok (.ifCond .ne (7), 3) := by decide +kernel
theorem d_M_must_13 : decode m_M_must.2.1 13 = .ok (.goto (4), 3) := by decide +kernel
theorem d_M_must_24 : decode m_M_must.2.1 24 = .ok (.ifCond .ne (7), 3) := by decide +kernel
theorem d_M_must_31 : decode m_M_must.2.1 31 = .ok (.return_, 1) := by decide +kernel
theorem d_M_must_28 : decode m_M_must.2.1 28 = .ok (.invokevirtual 216, 3) := by decide +kernel
theorem d_M_must_9 : decode m_M_must.2.1 9 = .ok (.ifCond .ne (7), 3) := by decide +kernel
def f_M_must  (S : hs) (x1 : Int32) : Option (Int32 × hs) := (if (gI S 191 9) = 0 then (if x1 = 0 then (if (gI (uI S 191 9 (1 : Int32)) 191 9) = 0 then bd (f_M_next  (uI S 191 9 (1 : Int32))) fun r12 S13 => some ((0 : Int32), S13) else some ((0 : Int32), (uI S 191 9 (1 : Int32)))) else (if (gI (uI S 191 9 (0 : Int32)) 191 9) = 0 then bd (f_M_next  (uI S 191 9 (0 : Int32))) fun r8 S9 => some ((0 : Int32), S9) else some ((0 : Int32), (uI S 191 9 (0 : Int32))))) else (if (gI (uI S 191 9 (1 : Int32)) 191 9) = 0 then bd (f_M_next  (uI S 191 9 (1 : Int32))) fun r3 S4 => some ((0 : Int32), S4) else some ((0 : Int32), (uI S 191 9 (1 : Int32)))))
theorem c_M_must (w : Wd) (d : Nat) (c : cx)   (S : hs) (x1 : Int32)  {z : Int32 × hs} (H : f_M_must S x1 = some z) : Cl w (d + 4) m_M_must [.ref 191, .int x1] (mk c S) (none) (mk c z.2) := by
  refine Cl.of (Nat.le_refl _) (Nat.le_refl _) (by decide +kernel) (Nat.le_of_ble_eq_true rfl) ?_
  unfold f_M_must at H
  generalize hN (mk c S) = n0
  generalize hZ (mk c S) = z0
  show J w (d + 4) m_M_must (n0, z0, none, mk c z.2) 0 [some (.ref 191), some (.int x1)] [] (mk c S)
  refine J.run b_M_must_0_3 k_M_must_0_3 rfl (And.intro (okO_st (S := S) rfl) (show J w (d + 4) m_M_must (n0, z0, none, mk c z.2) 5 [some (.ref 191), some (.int x1)] [.int (gI S 191 9), .ref 191] (mk c S) from ?_))
  refine J.zne (tgt := 12) d_M_must_5 rfl (fun q1 => ?_) (fun q1 => ?_)
  · have H := ite_f H q1
    refine J.run b_M_must_12_1 k_M_must_12_1 rfl (show J w (d + 4) m_M_must (n0, z0, none, mk c z.2) 13 [some (.ref 191), some (.int x1)] [.int (1 : Int32), .ref 191] (mk c S) from ?_)
    refine J.goto (tgt := 17) d_M_must_13 rfl ?_
    refine J.run b_M_must_17_3 k_M_must_17_3 rfl (And.intro (okO_st (S := S) rfl) (And.intro (by decide) (And.intro (okO_st (S := (uI S 191 9 (1 : Int32))) rfl) (show J w (d + 4) m_M_must (n0, z0, none, mk c z.2) 24 [some (.ref 191), some (.int x1)] [.int (gI (uI S 191 9 (1 : Int32)) 191 9)] (mk c (uI S 191 9 (1 : Int32))) from ?_))))
    refine J.zne (tgt := 31) d_M_must_24 rfl (fun q2 => ?_) (fun q2 => ?_)
    · have H := ite_f H q2
      obtain rfl := some_e H
      exact J.vret d_M_must_31 rfl rfl
    · have H := ite_t H q2
      refine J.run b_M_must_27_1 k_M_must_27_1 rfl (show J w (d + 4) m_M_must (n0, z0, none, mk c z.2) 28 [some (.ref 191), some (.int x1)] [.ref 191] (mk c (uI S 191 9 (1 : Int32))) from ?_)
      obtain ⟨r3, S4, h5, H⟩ := bd_e H
      refine J.callV (y := m_M_next) (av := []) (rest := []) (q := 191) l_M_216 d_M_must_28 (isC_st rfl rfl) (c_M_next w (d + 0) c  (uI S 191 9 (1 : Int32)) h5) rfl (Nat.le_of_ble_eq_true rfl) ⟨Nat.le_refl _, Nat.le_refl _⟩ (show J w (d + 4) m_M_must (n0, z0, none, mk c z.2) 31 [some (.ref 191), some (.int x1)] [] (mk c S4) from ?_)
      obtain rfl := some_e H
      exact J.vret d_M_must_31 rfl rfl
  · have H := ite_t H q1
    refine J.run b_M_must_8_1 k_M_must_8_1 rfl (show J w (d + 4) m_M_must (n0, z0, none, mk c z.2) 9 [some (.ref 191), some (.int x1)] [.int x1, .ref 191] (mk c S) from ?_)
    refine J.zne (tgt := 16) d_M_must_9 rfl (fun q6 => ?_) (fun q6 => ?_)
    · have H := ite_f H q6
      refine J.run b_M_must_16_4 k_M_must_16_4 rfl (And.intro (okO_st (S := S) rfl) (And.intro (by decide) (And.intro (okO_st (S := (uI S 191 9 (0 : Int32))) rfl) (show J w (d + 4) m_M_must (n0, z0, none, mk c z.2) 24 [some (.ref 191), some (.int x1)] [.int (gI (uI S 191 9 (0 : Int32)) 191 9)] (mk c (uI S 191 9 (0 : Int32))) from ?_))))
      refine J.zne (tgt := 31) d_M_must_24 rfl (fun q7 => ?_) (fun q7 => ?_)
      · have H := ite_f H q7
        obtain rfl := some_e H
        exact J.vret d_M_must_31 rfl rfl
      · have H := ite_t H q7
        refine J.run b_M_must_27_1 k_M_must_27_1 rfl (show J w (d + 4) m_M_must (n0, z0, none, mk c z.2) 28 [some (.ref 191), some (.int x1)] [.ref 191] (mk c (uI S 191 9 (0 : Int32))) from ?_)
        obtain ⟨r8, S9, h10, H⟩ := bd_e H
        refine J.callV (y := m_M_next) (av := []) (rest := []) (q := 191) l_M_216 d_M_must_28 (isC_st rfl rfl) (c_M_next w (d + 0) c  (uI S 191 9 (0 : Int32)) h10) rfl (Nat.le_of_ble_eq_true rfl) ⟨Nat.le_refl _, Nat.le_refl _⟩ (show J w (d + 4) m_M_must (n0, z0, none, mk c z.2) 31 [some (.ref 191), some (.int x1)] [] (mk c S9) from ?_)
        obtain rfl := some_e H
        exact J.vret d_M_must_31 rfl rfl
    · have H := ite_t H q6
      refine J.run b_M_must_12_1 k_M_must_12_1 rfl (show J w (d + 4) m_M_must (n0, z0, none, mk c z.2) 13 [some (.ref 191), some (.int x1)] [.int (1 : Int32), .ref 191] (mk c S) from ?_)
      refine J.goto (tgt := 17) d_M_must_13 rfl ?_
      refine J.run b_M_must_17_3 k_M_must_17_3 rfl (And.intro (okO_st (S := S) rfl) (And.intro (by decide) (And.intro (okO_st (S := (uI S 191 9 (1 : Int32))) rfl) (show J w (d + 4) m_M_must (n0, z0, none, mk c z.2) 24 [some (.ref 191), some (.int x1)] [.int (gI (uI S 191 9 (1 : Int32)) 191 9)] (mk c (uI S 191 9 (1 : Int32))) from ?_))))
      refine J.zne (tgt := 31) d_M_must_24 rfl (fun q11 => ?_) (fun q11 => ?_)
      · have H := ite_f H q11
        obtain rfl := some_e H
        exact J.vret d_M_must_31 rfl rfl
      · have H := ite_t H q11
        refine J.run b_M_must_27_1 k_M_must_27_1 rfl (show J w (d + 4) m_M_must (n0, z0, none, mk c z.2) 28 [some (.ref 191), some (.int x1)] [.ref 191] (mk c (uI S 191 9 (1 : Int32))) from ?_)
        obtain ⟨r12, S13, h14, H⟩ := bd_e H
        refine J.callV (y := m_M_next) (av := []) (rest := []) (q := 191) l_M_216 d_M_must_28 (isC_st rfl rfl) (c_M_next w (d + 0) c  (uI S 191 9 (1 : Int32)) h14) rfl (Nat.le_of_ble_eq_true rfl) ⟨Nat.le_refl _, Nat.le_refl _⟩ (show J w (d + 4) m_M_must (n0, z0, none, mk c z.2) 31 [some (.ref 191), some (.int x1)] [] (mk c S13) from ?_)
        obtain rfl := some_e H
        exact J.vret d_M_must_31 rfl rfl
def b_M_value_0_2 : List Ins := [(.aload_n 0, 0, 0, 0), (.getfield 212, 11, 9, 0)]
theorem k_M_value_0_2 : bok m_M_value 0 b_M_value_0_2 = true := by decide +kernel
def b_M_value_8_3 : List Ins := [(.aload_n 0, 0, 0, 0), (.getfield 195, 11, 8, 0), (.iconst (2), 0, 0, 0)]
theorem k_M_value_8_3 : bok m_M_value 8 b_M_value_8_3 = true := by decide +kernel
def b_M_value_76_4 : List Ins := [(.iconst (-1), 0, 0, 0), (.istore_n 1, 0, 0, 0), (.iconst (0), 0, 0, 0), (.istore_n 2, 0, 0, 0)]
theorem k_M_value_76_4 : bok m_M_value 76 b_M_value_76_4 = true := by decide +kernel
def b_M_value_80_4 : List Ins := [(.iload_n 2, 0, 0, 0), (.aload_n 0, 0, 0, 0), (.getfield 40, 11, 13, 2), (.arraylength, 0, 0, 0)]
theorem k_M_value_80_4 : bok m_M_value 80 b_M_value_80_4 = true := by decide +kernel
def b_M_value_89_5 : List Ins := [(.aload_n 0, 0, 0, 0), (.aload_n 0, 0, 0, 0), (.getfield 40, 11, 13, 2), (.iload_n 2, 0, 0, 0), (.aaload, 0, 0, 0)]
theorem k_M_value_89_5 : bok m_M_value 89 b_M_value_89_5 = true := by decide +kernel
def b_M_value_106_3 : List Ins := [(.iload_n 1, 0, 0, 0), (.istore_n 1, 0, 0, 0), (.iinc 2 (1), 0, 0, 0)]
theorem k_M_value_106_3 : bok m_M_value 106 b_M_value_106_3 = true := by decide +kernel
def b_M_value_102_1 : List Ins := [(.iload_n 2, 0, 0, 0)]
theorem k_M_value_102_1 : bok m_M_value 102 b_M_value_102_1 = true := by decide +kernel
def b_M_value_107_2 : List Ins := [(.istore_n 1, 0, 0, 0), (.iinc 2 (1), 0, 0, 0)]
theorem k_M_value_107_2 : bok m_M_value 107 b_M_value_107_2 = true := by decide +kernel
def b_M_value_114_4 : List Ins := [(.aload_n 0, 0, 0, 0), (.sipush (10000), 0, 0, 0), (.iconst (0), 0, 0, 0), (.iload_n 1, 0, 0, 0)]
theorem k_M_value_114_4 : bok m_M_value 114 b_M_value_114_4 = true := by decide +kernel
def b_M_value_123_1 : List Ins := [(.iadd, 0, 0, 0)]
theorem k_M_value_123_1 : bok m_M_value 123 b_M_value_123_1 = true := by decide +kernel
def b_M_value_127_2 : List Ins := [(.aload_n 0, 0, 0, 0), (.iload_n 1, 0, 0, 0)]
theorem k_M_value_127_2 : bok m_M_value 127 b_M_value_127_2 = true := by decide +kernel
def b_M_value_136_1 : List Ins := [(.iconst (0), 0, 0, 0)]
theorem k_M_value_136_1 : bok m_M_value 136 b_M_value_136_1 = true := by decide +kernel
def b_M_value_132_1 : List Ins := [(.iconst (1), 0, 0, 0)]
theorem k_M_value_132_1 : bok m_M_value 132 b_M_value_132_1 = true := by decide +kernel
def b_M_value_16_6 : List Ins := [(.aload_n 0, 0, 0, 0), (.getfield 186, 11, 7, 0), (.aload_n 0, 0, 0, 0), (.getfield 189, 11, 6, 0), (.isub, 0, 0, 0), (.iconst (4), 0, 0, 0)]
theorem k_M_value_16_6 : bok m_M_value 16 b_M_value_16_6 = true := by decide +kernel
def b_M_value_29_5 : List Ins := [(.iconst (0), 0, 0, 0), (.istore_n 1, 0, 0, 0), (.aload_n 0, 0, 0, 0), (.getfield 189, 11, 6, 0), (.istore_n 2, 0, 0, 0)]
theorem k_M_value_29_5 : bok m_M_value 29 b_M_value_29_5 = true := by decide +kernel
def b_M_value_36_3 : List Ins := [(.iload_n 2, 0, 0, 0), (.aload_n 0, 0, 0, 0), (.getfield 186, 11, 7, 0)]
theorem k_M_value_36_3 : bok m_M_value 36 b_M_value_36_3 = true := by decide +kernel
def b_M_value_44_12 : List Ins := [(.bipush (10), 0, 0, 0), (.iload_n 1, 0, 0, 0), (.imul, 0, 0, 0), (.aload_n 0, 0, 0, 0), (.getfield 20, 11, 4, 2), (.iload_n 2, 0, 0, 0), (.iaload, 0, 0, 0), (.iadd, 0, 0, 0), (.bipush (48), 0, 0, 0), (.isub, 0, 0, 0), (.istore_n 1, 0, 0, 0), (.iinc 2 (1), 0, 0, 0)]
theorem k_M_value_44_12 : bok m_M_value 44 b_M_value_44_12 = true := by decide +kernel
def b_M_value_65_2 : List Ins := [(.aload_n 0, 0, 0, 0), (.iload_n 1, 0, 0, 0)]
theorem k_M_value_65_2 : bok m_M_value 65 b_M_value_65_2 = true := by decide +kernel
def b_M_value_70_2 : List Ins := [(.aload_n 0, 0, 0, 0), (.iconst (1), 0, 0, 0)]
theorem k_M_value_70_2 : bok m_M_value 70 b_M_value_70_2 = true := by decide +kernel
theorem d_M_value_4 : decode m_M_value.2.1 4 = .ok (.ifCond .eq (4), 3) := by decide +kernel
theorem d_M_value_13 : decode m_M_value.2.1 13 = .ok (.if_icmp .ne (63), 3) := by decide +kernel
theorem d_M_value_86 : decode m_M_value.2.1 86 = .ok (.if_icmp .ge (28), 3) := by decide +kernel
theorem d_M_value_96 : decode m_M_value.2.1 96 = .ok (.invokevirtual 227, 3) := by decide +kernel
theorem d_M_value_99 : decode m_M_value.2.1 99 = .ok (.ifCond .eq (7), 3) := by decide +kernel
theorem d_M_value_111 : decode m_M_value.2.1 111 = .ok (.goto (-31), 3) := by decide +kernel
theorem d_M_value_103 : decode m_M_value.2.1 103 = .ok (.goto (4), 3) := by decide +kernel
theorem d_M_value_120 : decode m_M_value.2.1 120 = .ok (.invokestatic 258, 3) := by decide +kernel
theorem d_M_value_124 : decode m_M_value.2.1 124 = .ok (.invokevirtual 235, 3) := by decide +kernel
theorem d_M_value_129 : decode m_M_value.2.1 129 = .ok (.ifCond .lt (7), 3) := by decide +kernel
theorem d_M_value_137 : decode m_M_value.2.1 137 = .ok (.invokevirtual 231, 3) := by decide +kernel
theorem d_M_value_140 : decode m_M_value.2.1 140 = .ok (.return_, 1) := by decide +kernel
theorem d_M_value_133 : decode m_M_value.2.1 133 = .ok (.goto (4), 3) := by decide +kernel
theorem d_M_value_26 : decode m_M_value.2.1 26 = .ok (.if_icmp .gt (50), 3) := by decide +kernel
theorem d_M_value_41 : decode m_M_value.2.1 41 = .ok (.if_icmp .ge (24), 3) := by decide +kernel
theorem d_M_value_62 : decode m_M_value.2.1 62 = .ok (.goto (-26), 3) := by decide +kernel
theorem d_M_value_67 : decode m_M_value.2.1 67 = .ok (.invokevirtual 235, 3) := by decide +kernel
theorem d_M_value_72 : decode m_M_value.2.1 72 = .ok (.invokevirtual 231, 3) := by decide +kernel
theorem d_M_value_75 : decode m_M_value.2.1 75 = .ok (.return_, 1) := by decide +kernel
theorem d_M_value_7 : decode m_M_value.2.1 7 = .ok (.return_, 1) := by decide +kernel
def lp_M_value_80   (K0 : hs → Int32 → Int32 → Option (Int32 × hs)) : Nat → hs → Int32 → Int32 → Option (Int32 × hs)
  | 0, _, _, _ => none
  | n + 1, S, x1, x2 => (if (6 : Int32) ≤ x2 then K0 S x1 x2 else ck (inb x2 6) (bd (f_M_isWord  S (6 + (x2).toNatClampNeg)) fun r5 S6 => (if r5 = 0 then lp_M_value_80 K0 n S6 x1 (x2 + (1 : Int32)) else lp_M_value_80 K0 n S6 x2 (x2 + (1 : Int32)))))
def lp_M_value_36   (K0 : hs → Int32 → Int32 → Option (Int32 × hs)) : Nat → hs → Int32 → Int32 → Option (Int32 × hs)
  | 0, _, _, _ => none
  | n + 1, S, x1, x2 => (if (gI S 191 7) ≤ x2 then K0 S x1 x2 else ck (inb x2 200) (lp_M_value_36 K0 n S ((((10 : Int32) * x1) + (gI S 194 (x2).toNatClampNeg)) - (48 : Int32)) (x2 + (1 : Int32))))
def f_M_value  (S : hs)  : Option (Int32 × hs) := (if (gI S 191 9) = 0 then (if (gI S 191 8) = (2 : Int32) then (if (4 : Int32) < ((gI S 191 7) - (gI S 191 6)) then lp_M_value_80 (fun (S26 : hs) (y27 : Int32) (y28 : Int32) => bd (f_Ma_max  S26 (0 : Int32) y27) fun r29 S30 => bd (f_M_tells  S30 ((10000 : Int32) + r29)) fun r32 S33 => (if y27 < 0 then bd (f_M_must  S33 (0 : Int32)) fun r36 S37 => some ((0 : Int32), S37) else bd (f_M_must  S33 (1 : Int32)) fun r39 S40 => some ((0 : Int32), S40))) 1000 S (-1 : Int32) (0 : Int32) else lp_M_value_36 (fun (S44 : hs) (y45 : Int32) (y46 : Int32) => bd (f_M_tells  S44 y45) fun r47 S48 => bd (f_M_must  S48 (1 : Int32)) fun r50 S51 => some ((0 : Int32), S51)) 1000 S (0 : Int32) (gI S 191 6)) else lp_M_value_80 (fun (S9 : hs) (y10 : Int32) (y11 : Int32) => bd (f_Ma_max  S9 (0 : Int32) y10) fun r12 S13 => bd (f_M_tells  S13 ((10000 : Int32) + r12)) fun r15 S16 => (if y10 < 0 then bd (f_M_must  S16 (0 : Int32)) fun r19 S20 => some ((0 : Int32), S20) else bd (f_M_must  S16 (1 : Int32)) fun r22 S23 => some ((0 : Int32), S23))) 1000 S (-1 : Int32) (0 : Int32)) else some ((0 : Int32), S))
theorem lo_M_value_80 (w : Wd) (d : Nat) (c : cx) {n0 z0 : Nat} {z : Int32 × hs}  {K0 : hs → Int32 → Int32 → Option (Int32 × hs)}    (hK0 : ∀ (S : hs) (x1 : Int32) (x2 : Int32), K0 S x1 x2 = some z → J w (d + 7) m_M_value (n0, z0, none, mk c z.2) 114 [some (.ref 191), some (.int x1), none] [] (mk c S)) :
    ∀ (n : Nat) (S : hs) (x1 : Int32) (x2 : Int32), lp_M_value_80 K0 n S x1 x2 = some z → J w (d + 7) m_M_value (n0, z0, none, mk c z.2) 80 [some (.ref 191), some (.int x1), some (.int x2)] [] (mk c S) := by
  intro n
  induction n with
  | zero => intro S x1 x2 H; cases H
  | succ n ih =>
    intro S x1 x2 H
    rw [lp_M_value_80] at H
    refine J.run b_M_value_80_4 k_M_value_80_4 rfl (And.intro (okO_st (S := S) rfl) (And.intro (okN_st (S := S) (k := 25) (n := 6) rfl rfl) (show J w (d + 7) m_M_value (n0, z0, none, mk c z.2) 86 [some (.ref 191), some (.int x1), some (.int x2)] [.int (6 : Int32), .int x2] (mk c S) from ?_)))
    refine J.cge (tgt := 114) d_M_value_86 rfl (fun q3 => ?_) (fun q3 => ?_)
    · have H := ite_t H q3
      refine J.mask [true, true, false] ?_
      exact hK0 S x1 x2 H
    · have H := ite_f H q3
      obtain ⟨g4, H⟩ := ck_e H
      refine J.run b_M_value_89_5 k_M_value_89_5 rfl (And.intro (okO_st (S := S) rfl) (And.intro (okQ_st (S := S) (k := 25) (n := 6) rfl rfl g4) (show J w (d + 7) m_M_value (n0, z0, none, mk c z.2) 96 [some (.ref 191), some (.int x1), some (.int x2)] [.ref (6 + (x2).toNatClampNeg), .ref 191] (mk c S) from ?_)))
      obtain ⟨r5, S6, h7, H⟩ := bd_e H
      refine J.callV (y := m_M_isWord) (av := [.ref (6 + (x2).toNatClampNeg)]) (rest := []) (q := 191) l_M_227 d_M_value_96 (isC_st rfl rfl) (c_M_isWord w (d + 0) c  S (6 + (x2).toNatClampNeg) (Nat.lt_of_lt_of_le (Nat.add_lt_add_left (inb_lt g4) 6) (by decide)) h7) rfl (Nat.le_of_ble_eq_true rfl) ⟨Nat.le_refl _, Nat.le_refl _⟩ (show J w (d + 7) m_M_value (n0, z0, none, mk c z.2) 99 [some (.ref 191), some (.int x1), some (.int x2)] [.int r5] (mk c S6) from ?_)
      refine J.zeq (tgt := 106) d_M_value_99 rfl (fun q8 => ?_) (fun q8 => ?_)
      · have H := ite_t H q8
        refine J.run b_M_value_106_3 k_M_value_106_3 rfl (show J w (d + 7) m_M_value (n0, z0, none, mk c z.2) 111 [some (.ref 191), some (.int x1), some (.int (x2 + (1 : Int32)))] [] (mk c S6) from ?_)
        refine J.goto (tgt := 80) d_M_value_111 rfl ?_
        refine J.mask [true, true, true] ?_
        exact ih S6 x1 (x2 + (1 : Int32)) H
      · have H := ite_f H q8
        refine J.run b_M_value_102_1 k_M_value_102_1 rfl (show J w (d + 7) m_M_value (n0, z0, none, mk c z.2) 103 [some (.ref 191), some (.int x1), some (.int x2)] [.int x2] (mk c S6) from ?_)
        refine J.goto (tgt := 107) d_M_value_103 rfl ?_
        refine J.run b_M_value_107_2 k_M_value_107_2 rfl (show J w (d + 7) m_M_value (n0, z0, none, mk c z.2) 111 [some (.ref 191), some (.int x2), some (.int (x2 + (1 : Int32)))] [] (mk c S6) from ?_)
        refine J.goto (tgt := 80) d_M_value_111 rfl ?_
        refine J.mask [true, true, true] ?_
        exact ih S6 x2 (x2 + (1 : Int32)) H
theorem lo_M_value_36 (w : Wd) (d : Nat) (c : cx) {n0 z0 : Nat} {z : Int32 × hs}  {K0 : hs → Int32 → Int32 → Option (Int32 × hs)}    (hK0 : ∀ (S : hs) (x1 : Int32) (x2 : Int32), K0 S x1 x2 = some z → J w (d + 7) m_M_value (n0, z0, none, mk c z.2) 65 [some (.ref 191), some (.int x1), none] [] (mk c S)) :
    ∀ (n : Nat) (S : hs) (x1 : Int32) (x2 : Int32), lp_M_value_36 K0 n S x1 x2 = some z → J w (d + 7) m_M_value (n0, z0, none, mk c z.2) 36 [some (.ref 191), some (.int x1), some (.int x2)] [] (mk c S) := by
  intro n
  induction n with
  | zero => intro S x1 x2 H; cases H
  | succ n ih =>
    intro S x1 x2 H
    rw [lp_M_value_36] at H
    refine J.run b_M_value_36_3 k_M_value_36_3 rfl (And.intro (okO_st (S := S) rfl) (show J w (d + 7) m_M_value (n0, z0, none, mk c z.2) 41 [some (.ref 191), some (.int x1), some (.int x2)] [.int (gI S 191 7), .int x2] (mk c S) from ?_))
    refine J.cge (tgt := 65) d_M_value_41 rfl (fun q42 => ?_) (fun q42 => ?_)
    · have H := ite_t H q42
      refine J.mask [true, true, false] ?_
      exact hK0 S x1 x2 H
    · have H := ite_f H q42
      obtain ⟨g43, H⟩ := ck_e H
      refine J.run b_M_value_44_12 k_M_value_44_12 rfl (And.intro (okO_st (S := S) rfl) (And.intro (okA_st (S := S) (n := 200) rfl g43) (show J w (d + 7) m_M_value (n0, z0, none, mk c z.2) 62 [some (.ref 191), some (.int ((((10 : Int32) * x1) + (gI S 194 (x2).toNatClampNeg)) - (48 : Int32))), some (.int (x2 + (1 : Int32)))] [] (mk c S) from ?_)))
      refine J.goto (tgt := 36) d_M_value_62 rfl ?_
      refine J.mask [true, true, true] ?_
      exact ih S ((((10 : Int32) * x1) + (gI S 194 (x2).toNatClampNeg)) - (48 : Int32)) (x2 + (1 : Int32)) H
theorem c_M_value (w : Wd) (d : Nat) (c : cx)   (S : hs)   {z : Int32 × hs} (H : f_M_value S = some z) : Cl w (d + 7) m_M_value [.ref 191] (mk c S) (none) (mk c z.2) := by
  refine Cl.of (Nat.le_refl _) (Nat.le_refl _) (by decide +kernel) (Nat.le_of_ble_eq_true rfl) ?_
  unfold f_M_value at H
  generalize hN (mk c S) = n0
  generalize hZ (mk c S) = z0
  show J w (d + 7) m_M_value (n0, z0, none, mk c z.2) 0 [some (.ref 191), none, none] [] (mk c S)
  refine J.run b_M_value_0_2 k_M_value_0_2 rfl (And.intro (okO_st (S := S) rfl) (show J w (d + 7) m_M_value (n0, z0, none, mk c z.2) 4 [some (.ref 191), none, none] [.int (gI S 191 9)] (mk c S) from ?_))
  refine J.zeq (tgt := 8) d_M_value_4 rfl (fun q1 => ?_) (fun q1 => ?_)
  · have H := ite_t H q1
    refine J.run b_M_value_8_3 k_M_value_8_3 rfl (And.intro (okO_st (S := S) rfl) (show J w (d + 7) m_M_value (n0, z0, none, mk c z.2) 13 [some (.ref 191), none, none] [.int (2 : Int32), .int (gI S 191 8)] (mk c S) from ?_))
    refine J.cne (tgt := 76) d_M_value_13 rfl (fun q2 => ?_) (fun q2 => ?_)
    · have H := ite_f H q2
      refine J.run b_M_value_76_4 k_M_value_76_4 rfl (show J w (d + 7) m_M_value (n0, z0, none, mk c z.2) 80 [some (.ref 191), some (.int (-1 : Int32)), some (.int (0 : Int32))] [] (mk c S) from ?_)
      refine J.mask [true, true, true] ?_
      refine lo_M_value_80 w d c  ?_ 1000 S (-1 : Int32) (0 : Int32) H
      · intro S9 y10 y11 H
        try dsimp only at H
        refine J.run b_M_value_114_4 k_M_value_114_4 rfl (show J w (d + 7) m_M_value (n0, z0, none, mk c z.2) 120 [some (.ref 191), some (.int y10), none] [.int y10, .int (0 : Int32), .int (10000 : Int32), .ref 191] (mk c S9) from ?_)
        obtain ⟨r12, S13, h14, H⟩ := bd_e H
        refine J.callS (y := m_Ma_max) (av := [.int (0 : Int32), .int y10]) (rest := [.int (10000 : Int32), .ref 191]) l_M_258 d_M_value_120 (c_Ma_max w (d + 5) c  S9 (0 : Int32) y10 h14) rfl (Nat.le_of_ble_eq_true rfl) ⟨Nat.le_refl _, Nat.le_refl _⟩ (show J w (d + 7) m_M_value (n0, z0, none, mk c z.2) 123 [some (.ref 191), some (.int y10), none] [.int r12, .int (10000 : Int32), .ref 191] (mk c S13) from ?_)
        refine J.run b_M_value_123_1 k_M_value_123_1 rfl (show J w (d + 7) m_M_value (n0, z0, none, mk c z.2) 124 [some (.ref 191), some (.int y10), none] [.int ((10000 : Int32) + r12), .ref 191] (mk c S13) from ?_)
        obtain ⟨r15, S16, h17, H⟩ := bd_e H
        refine J.callV (y := m_M_tells) (av := [.int ((10000 : Int32) + r12)]) (rest := []) (q := 191) l_M_235 d_M_value_124 (isC_st rfl rfl) (c_M_tells w (d + 5) c  S13 ((10000 : Int32) + r12) h17) rfl (Nat.le_of_ble_eq_true rfl) ⟨Nat.le_refl _, Nat.le_refl _⟩ (show J w (d + 7) m_M_value (n0, z0, none, mk c z.2) 127 [some (.ref 191), some (.int y10), none] [] (mk c S16) from ?_)
        refine J.run b_M_value_127_2 k_M_value_127_2 rfl (show J w (d + 7) m_M_value (n0, z0, none, mk c z.2) 129 [some (.ref 191), some (.int y10), none] [.int y10, .ref 191] (mk c S16) from ?_)
        refine J.zlt (tgt := 136) d_M_value_129 rfl (fun q18 => ?_) (fun q18 => ?_)
        · have H := ite_t H q18
          refine J.run b_M_value_136_1 k_M_value_136_1 rfl (show J w (d + 7) m_M_value (n0, z0, none, mk c z.2) 137 [some (.ref 191), some (.int y10), none] [.int (0 : Int32), .ref 191] (mk c S16) from ?_)
          obtain ⟨r19, S20, h21, H⟩ := bd_e H
          refine J.callV (y := m_M_must) (av := [.int (0 : Int32)]) (rest := []) (q := 191) l_M_231 d_M_value_137 (isC_st rfl rfl) (c_M_must w (d + 2) c  S16 (0 : Int32) h21) rfl (Nat.le_of_ble_eq_true rfl) ⟨Nat.le_refl _, Nat.le_refl _⟩ (show J w (d + 7) m_M_value (n0, z0, none, mk c z.2) 140 [some (.ref 191), some (.int y10), none] [] (mk c S20) from ?_)
          obtain rfl := some_e H
          exact J.vret d_M_value_140 rfl rfl
        · have H := ite_f H q18
          refine J.run b_M_value_132_1 k_M_value_132_1 rfl (show J w (d + 7) m_M_value (n0, z0, none, mk c z.2) 133 [some (.ref 191), some (.int y10), none] [.int (1 : Int32), .ref 191] (mk c S16) from ?_)
          refine J.goto (tgt := 137) d_M_value_133 rfl ?_
          obtain ⟨r22, S23, h24, H⟩ := bd_e H
          refine J.callV (y := m_M_must) (av := [.int (1 : Int32)]) (rest := []) (q := 191) l_M_231 d_M_value_137 (isC_st rfl rfl) (c_M_must w (d + 2) c  S16 (1 : Int32) h24) rfl (Nat.le_of_ble_eq_true rfl) ⟨Nat.le_refl _, Nat.le_refl _⟩ (show J w (d + 7) m_M_value (n0, z0, none, mk c z.2) 140 [some (.ref 191), some (.int y10), none] [] (mk c S23) from ?_)
          obtain rfl := some_e H
          exact J.vret d_M_value_140 rfl rfl
    · have H := ite_t H q2
      refine J.run b_M_value_16_6 k_M_value_16_6 rfl (And.intro (okO_st (S := S) rfl) (And.intro (okO_st (S := S) rfl) (show J w (d + 7) m_M_value (n0, z0, none, mk c z.2) 26 [some (.ref 191), none, none] [.int (4 : Int32), .int ((gI S 191 7) - (gI S 191 6))] (mk c S) from ?_)))
      refine J.cgt (tgt := 76) d_M_value_26 rfl (fun q25 => ?_) (fun q25 => ?_)
      · have H := ite_t H q25
        refine J.run b_M_value_76_4 k_M_value_76_4 rfl (show J w (d + 7) m_M_value (n0, z0, none, mk c z.2) 80 [some (.ref 191), some (.int (-1 : Int32)), some (.int (0 : Int32))] [] (mk c S) from ?_)
        refine J.mask [true, true, true] ?_
        refine lo_M_value_80 w d c  ?_ 1000 S (-1 : Int32) (0 : Int32) H
        · intro S26 y27 y28 H
          try dsimp only at H
          refine J.run b_M_value_114_4 k_M_value_114_4 rfl (show J w (d + 7) m_M_value (n0, z0, none, mk c z.2) 120 [some (.ref 191), some (.int y27), none] [.int y27, .int (0 : Int32), .int (10000 : Int32), .ref 191] (mk c S26) from ?_)
          obtain ⟨r29, S30, h31, H⟩ := bd_e H
          refine J.callS (y := m_Ma_max) (av := [.int (0 : Int32), .int y27]) (rest := [.int (10000 : Int32), .ref 191]) l_M_258 d_M_value_120 (c_Ma_max w (d + 5) c  S26 (0 : Int32) y27 h31) rfl (Nat.le_of_ble_eq_true rfl) ⟨Nat.le_refl _, Nat.le_refl _⟩ (show J w (d + 7) m_M_value (n0, z0, none, mk c z.2) 123 [some (.ref 191), some (.int y27), none] [.int r29, .int (10000 : Int32), .ref 191] (mk c S30) from ?_)
          refine J.run b_M_value_123_1 k_M_value_123_1 rfl (show J w (d + 7) m_M_value (n0, z0, none, mk c z.2) 124 [some (.ref 191), some (.int y27), none] [.int ((10000 : Int32) + r29), .ref 191] (mk c S30) from ?_)
          obtain ⟨r32, S33, h34, H⟩ := bd_e H
          refine J.callV (y := m_M_tells) (av := [.int ((10000 : Int32) + r29)]) (rest := []) (q := 191) l_M_235 d_M_value_124 (isC_st rfl rfl) (c_M_tells w (d + 5) c  S30 ((10000 : Int32) + r29) h34) rfl (Nat.le_of_ble_eq_true rfl) ⟨Nat.le_refl _, Nat.le_refl _⟩ (show J w (d + 7) m_M_value (n0, z0, none, mk c z.2) 127 [some (.ref 191), some (.int y27), none] [] (mk c S33) from ?_)
          refine J.run b_M_value_127_2 k_M_value_127_2 rfl (show J w (d + 7) m_M_value (n0, z0, none, mk c z.2) 129 [some (.ref 191), some (.int y27), none] [.int y27, .ref 191] (mk c S33) from ?_)
          refine J.zlt (tgt := 136) d_M_value_129 rfl (fun q35 => ?_) (fun q35 => ?_)
          · have H := ite_t H q35
            refine J.run b_M_value_136_1 k_M_value_136_1 rfl (show J w (d + 7) m_M_value (n0, z0, none, mk c z.2) 137 [some (.ref 191), some (.int y27), none] [.int (0 : Int32), .ref 191] (mk c S33) from ?_)
            obtain ⟨r36, S37, h38, H⟩ := bd_e H
            refine J.callV (y := m_M_must) (av := [.int (0 : Int32)]) (rest := []) (q := 191) l_M_231 d_M_value_137 (isC_st rfl rfl) (c_M_must w (d + 2) c  S33 (0 : Int32) h38) rfl (Nat.le_of_ble_eq_true rfl) ⟨Nat.le_refl _, Nat.le_refl _⟩ (show J w (d + 7) m_M_value (n0, z0, none, mk c z.2) 140 [some (.ref 191), some (.int y27), none] [] (mk c S37) from ?_)
            obtain rfl := some_e H
            exact J.vret d_M_value_140 rfl rfl
          · have H := ite_f H q35
            refine J.run b_M_value_132_1 k_M_value_132_1 rfl (show J w (d + 7) m_M_value (n0, z0, none, mk c z.2) 133 [some (.ref 191), some (.int y27), none] [.int (1 : Int32), .ref 191] (mk c S33) from ?_)
            refine J.goto (tgt := 137) d_M_value_133 rfl ?_
            obtain ⟨r39, S40, h41, H⟩ := bd_e H
            refine J.callV (y := m_M_must) (av := [.int (1 : Int32)]) (rest := []) (q := 191) l_M_231 d_M_value_137 (isC_st rfl rfl) (c_M_must w (d + 2) c  S33 (1 : Int32) h41) rfl (Nat.le_of_ble_eq_true rfl) ⟨Nat.le_refl _, Nat.le_refl _⟩ (show J w (d + 7) m_M_value (n0, z0, none, mk c z.2) 140 [some (.ref 191), some (.int y27), none] [] (mk c S40) from ?_)
            obtain rfl := some_e H
            exact J.vret d_M_value_140 rfl rfl
      · have H := ite_f H q25
        refine J.run b_M_value_29_5 k_M_value_29_5 rfl (And.intro (okO_st (S := S) rfl) (show J w (d + 7) m_M_value (n0, z0, none, mk c z.2) 36 [some (.ref 191), some (.int (0 : Int32)), some (.int (gI S 191 6))] [] (mk c S) from ?_))
        refine J.mask [true, true, true] ?_
        refine lo_M_value_36 w d c  ?_ 1000 S (0 : Int32) (gI S 191 6) H
        · intro S44 y45 y46 H
          try dsimp only at H
          refine J.run b_M_value_65_2 k_M_value_65_2 rfl (show J w (d + 7) m_M_value (n0, z0, none, mk c z.2) 67 [some (.ref 191), some (.int y45), none] [.int y45, .ref 191] (mk c S44) from ?_)
          obtain ⟨r47, S48, h49, H⟩ := bd_e H
          refine J.callV (y := m_M_tells) (av := [.int y45]) (rest := []) (q := 191) l_M_235 d_M_value_67 (isC_st rfl rfl) (c_M_tells w (d + 5) c  S44 y45 h49) rfl (Nat.le_of_ble_eq_true rfl) ⟨Nat.le_refl _, Nat.le_refl _⟩ (show J w (d + 7) m_M_value (n0, z0, none, mk c z.2) 70 [some (.ref 191), some (.int y45), none] [] (mk c S48) from ?_)
          refine J.run b_M_value_70_2 k_M_value_70_2 rfl (show J w (d + 7) m_M_value (n0, z0, none, mk c z.2) 72 [some (.ref 191), some (.int y45), none] [.int (1 : Int32), .ref 191] (mk c S48) from ?_)
          obtain ⟨r50, S51, h52, H⟩ := bd_e H
          refine J.callV (y := m_M_must) (av := [.int (1 : Int32)]) (rest := []) (q := 191) l_M_231 d_M_value_72 (isC_st rfl rfl) (c_M_must w (d + 2) c  S48 (1 : Int32) h52) rfl (Nat.le_of_ble_eq_true rfl) ⟨Nat.le_refl _, Nat.le_refl _⟩ (show J w (d + 7) m_M_value (n0, z0, none, mk c z.2) 75 [some (.ref 191), some (.int y45), none] [] (mk c S51) from ?_)
          obtain rfl := some_e H
          exact J.vret d_M_value_75 rfl rfl
  · have H := ite_f H q1
    obtain rfl := some_e H
    exact J.vret d_M_value_7 rfl rfl
def b_M_all_0_1 : List Ins := [(.aload_n 0, 0, 0, 0)]
theorem k_M_all_0_1 : bok m_M_all 0 b_M_all_0_1 = true := by decide +kernel
def b_M_all_4_2 : List Ins := [(.aload_n 0, 0, 0, 0), (.getfield 212, 11, 9, 0)]
theorem k_M_all_4_2 : bok m_M_all 4 b_M_all_4_2 = true := by decide +kernel
def b_M_all_11_2 : List Ins := [(.aload_n 0, 0, 0, 0), (.ldc 242, 1, 14, 0)]
theorem k_M_all_11_2 : bok m_M_all 11 b_M_all_11_2 = true := by decide +kernel
def b_M_all_20_2 : List Ins := [(.aload_n 0, 0, 0, 0), (.iconst (1), 0, 0, 0)]
theorem k_M_all_20_2 : bok m_M_all 20 b_M_all_20_2 = true := by decide +kernel
def b_M_all_25_1 : List Ins := [(.aload_n 0, 0, 0, 0)]
theorem k_M_all_25_1 : bok m_M_all 25 b_M_all_25_1 = true := by decide +kernel
def b_M_all_29_2 : List Ins := [(.aload_n 0, 0, 0, 0), (.sipush (20001), 0, 0, 0)]
theorem k_M_all_29_2 : bok m_M_all 29 b_M_all_29_2 = true := by decide +kernel
theorem d_M_all_1 : decode m_M_all.2.1 1 = .ok (.invokevirtual 239, 3) := by decide +kernel
theorem d_M_all_8 : decode m_M_all.2.1 8 = .ok (.ifCond .ne (31), 3) := by decide +kernel
theorem d_M_all_39 : decode m_M_all.2.1 39 = .ok (.return_, 1) := by decide +kernel
theorem d_M_all_14 : decode m_M_all.2.1 14 = .ok (.invokevirtual 227, 3) := by decide +kernel
theorem d_M_all_17 : decode m_M_all.2.1 17 = .ok (.ifCond .eq (22), 3) := by decide +kernel
theorem d_M_all_22 : decode m_M_all.2.1 22 = .ok (.invokevirtual 231, 3) := by decide +kernel
theorem d_M_all_26 : decode m_M_all.2.1 26 = .ok (.invokevirtual 239, 3) := by decide +kernel
theorem d_M_all_33 : decode m_M_all.2.1 33 = .ok (.invokevirtual 235, 3) := by decide +kernel
theorem d_M_all_36 : decode m_M_all.2.1 36 = .ok (.goto (-32), 3) := by decide +kernel
def lp_M_all_4  (oc : hs → Option (Int32 × hs))  : Nat → hs → Option (Int32 × hs)
  | 0, _ => none
  | n + 1, S => (if (gI S 191 9) = 0 then bd (f_M_isWord  S 14) fun r5 S6 => (if r5 = 0 then some ((0 : Int32), S6) else bd (f_M_must  S6 (1 : Int32)) fun r9 S10 => bd (oc S10) fun r12 S13 => bd (f_M_tells  S13 (20001 : Int32)) fun r15 S16 => lp_M_all_4 oc n S16) else some ((0 : Int32), S))
def f_M_all (oc : hs → Option (Int32 × hs)) (S : hs)  : Option (Int32 × hs) := bd (oc S) fun r1 S2 => lp_M_all_4 oc 1000 S2
theorem lo_M_all_4 (w : Wd) (d : Nat) (c : cx) {n0 z0 : Nat} {z : Int32 × hs} {oc : hs → Option (Int32 × hs)}    (oc_ok : ∀ (D : Nat), d ≤ D → ∀ (S : hs)  (z : Int32 × hs), oc S  = some z → Cl w D m_M_one [.ref 191] (mk c S) (none) (mk c z.2))  :
    ∀ (n : Nat) (S : hs) , lp_M_all_4 oc n S = some z → J w (d + 7) m_M_all (n0, z0, none, mk c z.2) 4 [some (.ref 191)] [] (mk c S) := by
  intro n
  induction n with
  | zero => intro S H; cases H
  | succ n ih =>
    intro S H
    rw [lp_M_all_4] at H
    refine J.run b_M_all_4_2 k_M_all_4_2 rfl (And.intro (okO_st (S := S) rfl) (show J w (d + 7) m_M_all (n0, z0, none, mk c z.2) 8 [some (.ref 191)] [.int (gI S 191 9)] (mk c S) from ?_))
    refine J.zne (tgt := 39) d_M_all_8 rfl (fun q4 => ?_) (fun q4 => ?_)
    · have H := ite_f H q4
      obtain rfl := some_e H
      exact J.vret d_M_all_39 rfl rfl
    · have H := ite_t H q4
      refine J.run b_M_all_11_2 k_M_all_11_2 rfl (show J w (d + 7) m_M_all (n0, z0, none, mk c z.2) 14 [some (.ref 191)] [.ref 14, .ref 191] (mk c S) from ?_)
      obtain ⟨r5, S6, h7, H⟩ := bd_e H
      refine J.callV (y := m_M_isWord) (av := [.ref 14]) (rest := []) (q := 191) l_M_227 d_M_all_14 (isC_st rfl rfl) (c_M_isWord w (d + 0) c  S 14 (by decide) h7) rfl (Nat.le_of_ble_eq_true rfl) ⟨Nat.le_refl _, Nat.le_refl _⟩ (show J w (d + 7) m_M_all (n0, z0, none, mk c z.2) 17 [some (.ref 191)] [.int r5] (mk c S6) from ?_)
      refine J.zeq (tgt := 39) d_M_all_17 rfl (fun q8 => ?_) (fun q8 => ?_)
      · have H := ite_t H q8
        obtain rfl := some_e H
        exact J.vret d_M_all_39 rfl rfl
      · have H := ite_f H q8
        refine J.run b_M_all_20_2 k_M_all_20_2 rfl (show J w (d + 7) m_M_all (n0, z0, none, mk c z.2) 22 [some (.ref 191)] [.int (1 : Int32), .ref 191] (mk c S6) from ?_)
        obtain ⟨r9, S10, h11, H⟩ := bd_e H
        refine J.callV (y := m_M_must) (av := [.int (1 : Int32)]) (rest := []) (q := 191) l_M_231 d_M_all_22 (isC_st rfl rfl) (c_M_must w (d + 2) c  S6 (1 : Int32) h11) rfl (Nat.le_of_ble_eq_true rfl) ⟨Nat.le_refl _, Nat.le_refl _⟩ (show J w (d + 7) m_M_all (n0, z0, none, mk c z.2) 25 [some (.ref 191)] [] (mk c S10) from ?_)
        refine J.run b_M_all_25_1 k_M_all_25_1 rfl (show J w (d + 7) m_M_all (n0, z0, none, mk c z.2) 26 [some (.ref 191)] [.ref 191] (mk c S10) from ?_)
        obtain ⟨r12, S13, h14, H⟩ := bd_e H
        refine J.callV (y := m_M_one) (av := []) (rest := []) (q := 191) l_M_239 d_M_all_26 (isC_st rfl rfl) (oc_ok (d + 6) (Nat.le_add_right _ _) S10 _ h14) rfl (Nat.le_of_ble_eq_true rfl) ⟨Nat.le_refl _, Nat.le_refl _⟩ (show J w (d + 7) m_M_all (n0, z0, none, mk c z.2) 29 [some (.ref 191)] [] (mk c S13) from ?_)
        refine J.run b_M_all_29_2 k_M_all_29_2 rfl (show J w (d + 7) m_M_all (n0, z0, none, mk c z.2) 33 [some (.ref 191)] [.int (20001 : Int32), .ref 191] (mk c S13) from ?_)
        obtain ⟨r15, S16, h17, H⟩ := bd_e H
        refine J.callV (y := m_M_tells) (av := [.int (20001 : Int32)]) (rest := []) (q := 191) l_M_235 d_M_all_33 (isC_st rfl rfl) (c_M_tells w (d + 5) c  S13 (20001 : Int32) h17) rfl (Nat.le_of_ble_eq_true rfl) ⟨Nat.le_refl _, Nat.le_refl _⟩ (show J w (d + 7) m_M_all (n0, z0, none, mk c z.2) 36 [some (.ref 191)] [] (mk c S16) from ?_)
        refine J.goto (tgt := 4) d_M_all_36 rfl ?_
        refine J.mask [true] ?_
        exact ih S16 H
theorem c_M_all (w : Wd) (d : Nat) (c : cx) {oc : hs → Option (Int32 × hs)} (oc_ok : ∀ (D : Nat), d ≤ D → ∀ (S : hs)  (z : Int32 × hs), oc S  = some z → Cl w D m_M_one [.ref 191] (mk c S) (none) (mk c z.2)) (S : hs)   {z : Int32 × hs} (H : f_M_all oc S = some z) : Cl w (d + 7) m_M_all [.ref 191] (mk c S) (none) (mk c z.2) := by
  refine Cl.of (Nat.le_refl _) (Nat.le_refl _) (by decide +kernel) (Nat.le_of_ble_eq_true rfl) ?_
  unfold f_M_all at H
  generalize hN (mk c S) = n0
  generalize hZ (mk c S) = z0
  show J w (d + 7) m_M_all (n0, z0, none, mk c z.2) 0 [some (.ref 191)] [] (mk c S)
  refine J.run b_M_all_0_1 k_M_all_0_1 rfl (show J w (d + 7) m_M_all (n0, z0, none, mk c z.2) 1 [some (.ref 191)] [.ref 191] (mk c S) from ?_)
  obtain ⟨r1, S2, h3, H⟩ := bd_e H
  refine J.callV (y := m_M_one) (av := []) (rest := []) (q := 191) l_M_239 d_M_all_1 (isC_st rfl rfl) (oc_ok (d + 6) (Nat.le_add_right _ _) S _ h3) rfl (Nat.le_of_ble_eq_true rfl) ⟨Nat.le_refl _, Nat.le_refl _⟩ (show J w (d + 7) m_M_all (n0, z0, none, mk c z.2) 4 [some (.ref 191)] [] (mk c S2) from ?_)
  refine J.mask [true] ?_
  refine lo_M_all_4 w d c oc_ok  1000 S2 H
def b_M_condition_0_1 : List Ins := [(.aload_n 0, 0, 0, 0)]
theorem k_M_condition_0_1 : bok m_M_condition 0 b_M_condition_0_1 = true := by decide +kernel
def b_M_condition_4_2 : List Ins := [(.aload_n 0, 0, 0, 0), (.getfield 212, 11, 9, 0)]
theorem k_M_condition_4_2 : bok m_M_condition 4 b_M_condition_4_2 = true := by decide +kernel
def b_M_condition_11_2 : List Ins := [(.aload_n 0, 0, 0, 0), (.ldc 225, 1, 13, 0)]
theorem k_M_condition_11_2 : bok m_M_condition 11 b_M_condition_11_2 = true := by decide +kernel
def b_M_condition_20_2 : List Ins := [(.aload_n 0, 0, 0, 0), (.iconst (1), 0, 0, 0)]
theorem k_M_condition_20_2 : bok m_M_condition 20 b_M_condition_20_2 = true := by decide +kernel
def b_M_condition_25_1 : List Ins := [(.aload_n 0, 0, 0, 0)]
theorem k_M_condition_25_1 : bok m_M_condition 25 b_M_condition_25_1 = true := by decide +kernel
def b_M_condition_29_2 : List Ins := [(.aload_n 0, 0, 0, 0), (.sipush (20000), 0, 0, 0)]
theorem k_M_condition_29_2 : bok m_M_condition 29 b_M_condition_29_2 = true := by decide +kernel
theorem d_M_condition_1 : decode m_M_condition.2.1 1 = .ok (.invokevirtual 222, 3) := by decide +kernel
theorem d_M_condition_8 : decode m_M_condition.2.1 8 = .ok (.ifCond .ne (31), 3) := by decide +kernel
theorem d_M_condition_39 : decode m_M_condition.2.1 39 = .ok (.return_, 1) := by decide +kernel
theorem d_M_condition_14 : decode m_M_condition.2.1 14 = .ok (.invokevirtual 227, 3) := by decide +kernel
theorem d_M_condition_17 : decode m_M_condition.2.1 17 = .ok (.ifCond .eq (22), 3) := by decide +kernel
theorem d_M_condition_22 : decode m_M_condition.2.1 22 = .ok (.invokevirtual 231, 3) := by decide +kernel
theorem d_M_condition_26 : decode m_M_condition.2.1 26 = .ok (.invokevirtual 222, 3) := by decide +kernel
theorem d_M_condition_33 : decode m_M_condition.2.1 33 = .ok (.invokevirtual 235, 3) := by decide +kernel
theorem d_M_condition_36 : decode m_M_condition.2.1 36 = .ok (.goto (-32), 3) := by decide +kernel
def lp_M_condition_4  (oc : hs → Option (Int32 × hs))  : Nat → hs → Option (Int32 × hs)
  | 0, _ => none
  | n + 1, S => (if (gI S 191 9) = 0 then bd (f_M_isWord  S 13) fun r5 S6 => (if r5 = 0 then some ((0 : Int32), S6) else bd (f_M_must  S6 (1 : Int32)) fun r9 S10 => bd (f_M_all oc S10) fun r12 S13 => bd (f_M_tells  S13 (20000 : Int32)) fun r15 S16 => lp_M_condition_4 oc n S16) else some ((0 : Int32), S))
def f_M_condition (oc : hs → Option (Int32 × hs)) (S : hs)  : Option (Int32 × hs) := bd (f_M_all oc S) fun r1 S2 => lp_M_condition_4 oc 1000 S2
theorem lo_M_condition_4 (w : Wd) (d : Nat) (c : cx) {n0 z0 : Nat} {z : Int32 × hs} {oc : hs → Option (Int32 × hs)}    (oc_ok : ∀ (D : Nat), d ≤ D → ∀ (S : hs)  (z : Int32 × hs), oc S  = some z → Cl w D m_M_one [.ref 191] (mk c S) (none) (mk c z.2))  :
    ∀ (n : Nat) (S : hs) , lp_M_condition_4 oc n S = some z → J w (d + 8) m_M_condition (n0, z0, none, mk c z.2) 4 [some (.ref 191)] [] (mk c S) := by
  intro n
  induction n with
  | zero => intro S H; cases H
  | succ n ih =>
    intro S H
    rw [lp_M_condition_4] at H
    refine J.run b_M_condition_4_2 k_M_condition_4_2 rfl (And.intro (okO_st (S := S) rfl) (show J w (d + 8) m_M_condition (n0, z0, none, mk c z.2) 8 [some (.ref 191)] [.int (gI S 191 9)] (mk c S) from ?_))
    refine J.zne (tgt := 39) d_M_condition_8 rfl (fun q4 => ?_) (fun q4 => ?_)
    · have H := ite_f H q4
      obtain rfl := some_e H
      exact J.vret d_M_condition_39 rfl rfl
    · have H := ite_t H q4
      refine J.run b_M_condition_11_2 k_M_condition_11_2 rfl (show J w (d + 8) m_M_condition (n0, z0, none, mk c z.2) 14 [some (.ref 191)] [.ref 13, .ref 191] (mk c S) from ?_)
      obtain ⟨r5, S6, h7, H⟩ := bd_e H
      refine J.callV (y := m_M_isWord) (av := [.ref 13]) (rest := []) (q := 191) l_M_227 d_M_condition_14 (isC_st rfl rfl) (c_M_isWord w (d + 1) c  S 13 (by decide) h7) rfl (Nat.le_of_ble_eq_true rfl) ⟨Nat.le_refl _, Nat.le_refl _⟩ (show J w (d + 8) m_M_condition (n0, z0, none, mk c z.2) 17 [some (.ref 191)] [.int r5] (mk c S6) from ?_)
      refine J.zeq (tgt := 39) d_M_condition_17 rfl (fun q8 => ?_) (fun q8 => ?_)
      · have H := ite_t H q8
        obtain rfl := some_e H
        exact J.vret d_M_condition_39 rfl rfl
      · have H := ite_f H q8
        refine J.run b_M_condition_20_2 k_M_condition_20_2 rfl (show J w (d + 8) m_M_condition (n0, z0, none, mk c z.2) 22 [some (.ref 191)] [.int (1 : Int32), .ref 191] (mk c S6) from ?_)
        obtain ⟨r9, S10, h11, H⟩ := bd_e H
        refine J.callV (y := m_M_must) (av := [.int (1 : Int32)]) (rest := []) (q := 191) l_M_231 d_M_condition_22 (isC_st rfl rfl) (c_M_must w (d + 3) c  S6 (1 : Int32) h11) rfl (Nat.le_of_ble_eq_true rfl) ⟨Nat.le_refl _, Nat.le_refl _⟩ (show J w (d + 8) m_M_condition (n0, z0, none, mk c z.2) 25 [some (.ref 191)] [] (mk c S10) from ?_)
        refine J.run b_M_condition_25_1 k_M_condition_25_1 rfl (show J w (d + 8) m_M_condition (n0, z0, none, mk c z.2) 26 [some (.ref 191)] [.ref 191] (mk c S10) from ?_)
        obtain ⟨r12, S13, h14, H⟩ := bd_e H
        refine J.callV (y := m_M_all) (av := []) (rest := []) (q := 191) l_M_222 d_M_condition_26 (isC_st rfl rfl) (c_M_all w (d + 0) c (fun D hD => oc_ok D (Nat.le_trans (Nat.le_add_right d 0) hD)) S10 h14) rfl (Nat.le_of_ble_eq_true rfl) ⟨Nat.le_refl _, Nat.le_refl _⟩ (show J w (d + 8) m_M_condition (n0, z0, none, mk c z.2) 29 [some (.ref 191)] [] (mk c S13) from ?_)
        refine J.run b_M_condition_29_2 k_M_condition_29_2 rfl (show J w (d + 8) m_M_condition (n0, z0, none, mk c z.2) 33 [some (.ref 191)] [.int (20000 : Int32), .ref 191] (mk c S13) from ?_)
        obtain ⟨r15, S16, h17, H⟩ := bd_e H
        refine J.callV (y := m_M_tells) (av := [.int (20000 : Int32)]) (rest := []) (q := 191) l_M_235 d_M_condition_33 (isC_st rfl rfl) (c_M_tells w (d + 6) c  S13 (20000 : Int32) h17) rfl (Nat.le_of_ble_eq_true rfl) ⟨Nat.le_refl _, Nat.le_refl _⟩ (show J w (d + 8) m_M_condition (n0, z0, none, mk c z.2) 36 [some (.ref 191)] [] (mk c S16) from ?_)
        refine J.goto (tgt := 4) d_M_condition_36 rfl ?_
        refine J.mask [true] ?_
        exact ih S16 H
theorem c_M_condition (w : Wd) (d : Nat) (c : cx) {oc : hs → Option (Int32 × hs)} (oc_ok : ∀ (D : Nat), d ≤ D → ∀ (S : hs)  (z : Int32 × hs), oc S  = some z → Cl w D m_M_one [.ref 191] (mk c S) (none) (mk c z.2)) (S : hs)   {z : Int32 × hs} (H : f_M_condition oc S = some z) : Cl w (d + 8) m_M_condition [.ref 191] (mk c S) (none) (mk c z.2) := by
  refine Cl.of (Nat.le_refl _) (Nat.le_refl _) (by decide +kernel) (Nat.le_of_ble_eq_true rfl) ?_
  unfold f_M_condition at H
  generalize hN (mk c S) = n0
  generalize hZ (mk c S) = z0
  show J w (d + 8) m_M_condition (n0, z0, none, mk c z.2) 0 [some (.ref 191)] [] (mk c S)
  refine J.run b_M_condition_0_1 k_M_condition_0_1 rfl (show J w (d + 8) m_M_condition (n0, z0, none, mk c z.2) 1 [some (.ref 191)] [.ref 191] (mk c S) from ?_)
  obtain ⟨r1, S2, h3, H⟩ := bd_e H
  refine J.callV (y := m_M_all) (av := []) (rest := []) (q := 191) l_M_222 d_M_condition_1 (isC_st rfl rfl) (c_M_all w (d + 0) c (fun D hD => oc_ok D (Nat.le_trans (Nat.le_add_right d 0) hD)) S h3) rfl (Nat.le_of_ble_eq_true rfl) ⟨Nat.le_refl _, Nat.le_refl _⟩ (show J w (d + 8) m_M_condition (n0, z0, none, mk c z.2) 4 [some (.ref 191)] [] (mk c S2) from ?_)
  refine J.mask [true] ?_
  refine lo_M_condition_4 w d c oc_ok  1000 S2 H
def b_M_one_0_2 : List Ins := [(.aload_n 0, 0, 0, 0), (.getfield 212, 11, 9, 0)]
theorem k_M_one_0_2 : bok m_M_one 0 b_M_one_0_2 = true := by decide +kernel
def b_M_one_8_2 : List Ins := [(.aload_n 0, 0, 0, 0), (.ldc 244, 1, 15, 0)]
theorem k_M_one_8_2 : bok m_M_one 8 b_M_one_8_2 = true := by decide +kernel
def b_M_one_36_2 : List Ins := [(.aload_n 0, 0, 0, 0), (.bipush (40), 0, 0, 0)]
theorem k_M_one_36_2 : bok m_M_one 36 b_M_one_36_2 = true := by decide +kernel
def b_M_one_99_1 : List Ins := [(.aload_n 0, 0, 0, 0)]
theorem k_M_one_99_1 : bok m_M_one 99 b_M_one_99_1 = true := by decide +kernel
def b_M_one_103_2 : List Ins := [(.aload_n 0, 0, 0, 0), (.bipush (60), 0, 0, 0)]
theorem k_M_one_103_2 : bok m_M_one 103 b_M_one_103_2 = true := by decide +kernel
def b_M_one_118_2 : List Ins := [(.aload_n 0, 0, 0, 0), (.bipush (61), 0, 0, 0)]
theorem k_M_one_118_2 : bok m_M_one 118 b_M_one_118_2 = true := by decide +kernel
def b_M_one_133_5 : List Ins := [(.sipush (20004), 0, 0, 0), (.istore_n 1, 0, 0, 0), (.aload_n 0, 0, 0, 0), (.aload_n 0, 0, 0, 0), (.bipush (60), 0, 0, 0)]
theorem k_M_one_133_5 : bok m_M_one 133 b_M_one_133_5 = true := by decide +kernel
def b_M_one_165_1 : List Ins := [(.iconst (1), 0, 0, 0)]
theorem k_M_one_165_1 : bok m_M_one 165 b_M_one_165_1 = true := by decide +kernel
def b_M_one_173_1 : List Ins := [(.aload_n 0, 0, 0, 0)]
theorem k_M_one_173_1 : bok m_M_one 173 b_M_one_173_1 = true := by decide +kernel
def b_M_one_177_2 : List Ins := [(.aload_n 0, 0, 0, 0), (.iload_n 1, 0, 0, 0)]
theorem k_M_one_177_2 : bok m_M_one 177 b_M_one_177_2 = true := by decide +kernel
def b_M_one_147_2 : List Ins := [(.aload_n 0, 0, 0, 0), (.bipush (61), 0, 0, 0)]
theorem k_M_one_147_2 : bok m_M_one 147 b_M_one_147_2 = true := by decide +kernel
def b_M_one_156_2 : List Ins := [(.aload_n 0, 0, 0, 0), (.bipush (62), 0, 0, 0)]
theorem k_M_one_156_2 : bok m_M_one 156 b_M_one_156_2 = true := by decide +kernel
def b_M_one_169_1 : List Ins := [(.iconst (0), 0, 0, 0)]
theorem k_M_one_169_1 : bok m_M_one 169 b_M_one_169_1 = true := by decide +kernel
def b_M_one_127_1 : List Ins := [(.sipush (20003), 0, 0, 0)]
theorem k_M_one_127_1 : bok m_M_one 127 b_M_one_127_1 = true := by decide +kernel
def b_M_one_136_4 : List Ins := [(.istore_n 1, 0, 0, 0), (.aload_n 0, 0, 0, 0), (.aload_n 0, 0, 0, 0), (.bipush (60), 0, 0, 0)]
theorem k_M_one_136_4 : bok m_M_one 136 b_M_one_136_4 = true := by decide +kernel
def b_M_one_112_1 : List Ins := [(.sipush (20002), 0, 0, 0)]
theorem k_M_one_112_1 : bok m_M_one 112 b_M_one_112_1 = true := by decide +kernel
def b_M_one_45_4 : List Ins := [(.aload_n 0, 0, 0, 0), (.aload_n 0, 0, 0, 0), (.getfield 249, 11, 10, 0), (.iconst (3), 0, 0, 0)]
theorem k_M_one_45_4 : bok m_M_one 45 b_M_one_45_4 = true := by decide +kernel
def b_M_one_58_1 : List Ins := [(.iconst (0), 0, 0, 0)]
theorem k_M_one_58_1 : bok m_M_one 58 b_M_one_58_1 = true := by decide +kernel
def b_M_one_62_7 : List Ins := [(.aload_n 0, 0, 0, 0), (.dup, 0, 0, 0), (.getfield 249, 11, 10, 0), (.iconst (1), 0, 0, 0), (.iadd, 0, 0, 0), (.putfield 249, 11, 10, 0), (.aload_n 0, 0, 0, 0)]
theorem k_M_one_62_7 : bok m_M_one 62 b_M_one_62_7 = true := by decide +kernel
def b_M_one_76_9 : List Ins := [(.aload_n 0, 0, 0, 0), (.dup, 0, 0, 0), (.getfield 249, 11, 10, 0), (.iconst (1), 0, 0, 0), (.isub, 0, 0, 0), (.putfield 249, 11, 10, 0), (.aload_n 0, 0, 0, 0), (.aload_n 0, 0, 0, 0), (.bipush (41), 0, 0, 0)]
theorem k_M_one_76_9 : bok m_M_one 76 b_M_one_76_9 = true := by decide +kernel
def b_M_one_54_1 : List Ins := [(.iconst (1), 0, 0, 0)]
theorem k_M_one_54_1 : bok m_M_one 54 b_M_one_54_1 = true := by decide +kernel
def b_M_one_17_2 : List Ins := [(.aload_n 0, 0, 0, 0), (.iconst (1), 0, 0, 0)]
theorem k_M_one_17_2 : bok m_M_one 17 b_M_one_17_2 = true := by decide +kernel
def b_M_one_22_1 : List Ins := [(.aload_n 0, 0, 0, 0)]
theorem k_M_one_22_1 : bok m_M_one 22 b_M_one_22_1 = true := by decide +kernel
def b_M_one_26_2 : List Ins := [(.aload_n 0, 0, 0, 0), (.sipush (20005), 0, 0, 0)]
theorem k_M_one_26_2 : bok m_M_one 26 b_M_one_26_2 = true := by decide +kernel
theorem d_M_one_4 : decode m_M_one.2.1 4 = .ok (.ifCond .eq (4), 3) := by decide +kernel
theorem d_M_one_11 : decode m_M_one.2.1 11 = .ok (.invokevirtual 227, 3) := by decide +kernel
theorem d_M_one_14 : decode m_M_one.2.1 14 = .ok (.ifCond .eq (22), 3) := by decide +kernel
theorem d_M_one_39 : decode m_M_one.2.1 39 = .ok (.invokevirtual 246, 3) := by decide +kernel
theorem d_M_one_42 : decode m_M_one.2.1 42 = .ok (.ifCond .eq (57), 3) := by decide +kernel
theorem d_M_one_100 : decode m_M_one.2.1 100 = .ok (.invokevirtual 255, 3) := by decide +kernel
theorem d_M_one_106 : decode m_M_one.2.1 106 = .ok (.invokevirtual 246, 3) := by decide +kernel
theorem d_M_one_109 : decode m_M_one.2.1 109 = .ok (.ifCond .eq (9), 3) := by decide +kernel
theorem d_M_one_121 : decode m_M_one.2.1 121 = .ok (.invokevirtual 246, 3) := by decide +kernel
theorem d_M_one_124 : decode m_M_one.2.1 124 = .ok (.ifCond .eq (9), 3) := by decide +kernel
theorem d_M_one_141 : decode m_M_one.2.1 141 = .ok (.invokevirtual 246, 3) := by decide +kernel
theorem d_M_one_144 : decode m_M_one.2.1 144 = .ok (.ifCond .ne (21), 3) := by decide +kernel
theorem d_M_one_166 : decode m_M_one.2.1 166 = .ok (.goto (4), 3) := by decide +kernel
theorem d_M_one_170 : decode m_M_one.2.1 170 = .ok (.invokevirtual 231, 3) := by decide +kernel
theorem d_M_one_174 : decode m_M_one.2.1 174 = .ok (.invokevirtual 255, 3) := by decide +kernel
theorem d_M_one_179 : decode m_M_one.2.1 179 = .ok (.invokevirtual 235, 3) := by decide +kernel
theorem d_M_one_182 : decode m_M_one.2.1 182 = .ok (.return_, 1) := by decide +kernel
theorem d_M_one_150 : decode m_M_one.2.1 150 = .ok (.invokevirtual 246, 3) := by decide +kernel
theorem d_M_one_153 : decode m_M_one.2.1 153 = .ok (.ifCond .ne (12), 3) := by decide +kernel
theorem d_M_one_159 : decode m_M_one.2.1 159 = .ok (.invokevirtual 246, 3) := by decide +kernel
theorem d_M_one_162 : decode m_M_one.2.1 162 = .ok (.ifCond .eq (7), 3) := by decide +kernel
theorem d_M_one_130 : decode m_M_one.2.1 130 = .ok (.goto (6), 3) := by decide +kernel
theorem d_M_one_115 : decode m_M_one.2.1 115 = .ok (.goto (21), 3) := by decide +kernel
theorem d_M_one_51 : decode m_M_one.2.1 51 = .ok (.if_icmp .ge (7), 3) := by decide +kernel
theorem d_M_one_59 : decode m_M_one.2.1 59 = .ok (.invokevirtual 231, 3) := by decide +kernel
theorem d_M_one_73 : decode m_M_one.2.1 73 = .ok (.invokevirtual 252, 3) := by decide +kernel
theorem d_M_one_90 : decode m_M_one.2.1 90 = .ok (.invokevirtual 246, 3) := by decide +kernel
theorem d_M_one_93 : decode m_M_one.2.1 93 = .ok (.invokevirtual 231, 3) := by decide +kernel
theorem d_M_one_96 : decode m_M_one.2.1 96 = .ok (.goto (86), 3) := by decide +kernel
theorem d_M_one_55 : decode m_M_one.2.1 55 = .ok (.goto (4), 3) := by decide +kernel
theorem d_M_one_19 : decode m_M_one.2.1 19 = .ok (.invokevirtual 231, 3) := by decide +kernel
theorem d_M_one_23 : decode m_M_one.2.1 23 = .ok (.invokevirtual 239, 3) := by decide +kernel
theorem d_M_one_30 : decode m_M_one.2.1 30 = .ok (.invokevirtual 235, 3) := by decide +kernel
theorem d_M_one_33 : decode m_M_one.2.1 33 = .ok (.goto (149), 3) := by decide +kernel
theorem d_M_one_7 : decode m_M_one.2.1 7 = .ok (.return_, 1) := by decide +kernel
def f_M_one (oc : hs → Option (Int32 × hs)) (S : hs)  : Option (Int32 × hs) := (if (gI S 191 9) = 0 then bd (f_M_isWord  S 15) fun r2 S3 => (if r2 = 0 then bd (f_M_isSign  S3 (40 : Int32)) fun r6 S7 => (if r6 = 0 then bd (f_M_value  S7) fun r10 S11 => bd (f_M_isSign  S11 (60 : Int32)) fun r13 S14 => (if r13 = 0 then bd (f_M_isSign  S14 (61 : Int32)) fun r17 S18 => (if r17 = 0 then bd (f_M_isSign  S18 (60 : Int32)) fun r21 S22 => (if r21 = 0 then bd (f_M_isSign  S22 (61 : Int32)) fun r34 S35 => (if r34 = 0 then bd (f_M_isSign  S35 (62 : Int32)) fun r47 S48 => (if r47 = 0 then bd (f_M_must  S48 (0 : Int32)) fun r51 S52 => bd (f_M_value  S52) fun r54 S55 => bd (f_M_tells  S55 (20004 : Int32)) fun r57 S58 => some ((0 : Int32), S58) else bd (f_M_must  S48 (1 : Int32)) fun r60 S61 => bd (f_M_value  S61) fun r63 S64 => bd (f_M_tells  S64 (20004 : Int32)) fun r66 S67 => some ((0 : Int32), S67)) else bd (f_M_must  S35 (1 : Int32)) fun r38 S39 => bd (f_M_value  S39) fun r41 S42 => bd (f_M_tells  S42 (20004 : Int32)) fun r44 S45 => some ((0 : Int32), S45)) else bd (f_M_must  S22 (1 : Int32)) fun r25 S26 => bd (f_M_value  S26) fun r28 S29 => bd (f_M_tells  S29 (20004 : Int32)) fun r31 S32 => some ((0 : Int32), S32)) else bd (f_M_isSign  S18 (60 : Int32)) fun r69 S70 => (if r69 = 0 then bd (f_M_isSign  S70 (61 : Int32)) fun r82 S83 => (if r82 = 0 then bd (f_M_isSign  S83 (62 : Int32)) fun r95 S96 => (if r95 = 0 then bd (f_M_must  S96 (0 : Int32)) fun r99 S100 => bd (f_M_value  S100) fun r102 S103 => bd (f_M_tells  S103 (20003 : Int32)) fun r105 S106 => some ((0 : Int32), S106) else bd (f_M_must  S96 (1 : Int32)) fun r108 S109 => bd (f_M_value  S109) fun r111 S112 => bd (f_M_tells  S112 (20003 : Int32)) fun r114 S115 => some ((0 : Int32), S115)) else bd (f_M_must  S83 (1 : Int32)) fun r86 S87 => bd (f_M_value  S87) fun r89 S90 => bd (f_M_tells  S90 (20003 : Int32)) fun r92 S93 => some ((0 : Int32), S93)) else bd (f_M_must  S70 (1 : Int32)) fun r73 S74 => bd (f_M_value  S74) fun r76 S77 => bd (f_M_tells  S77 (20003 : Int32)) fun r79 S80 => some ((0 : Int32), S80))) else bd (f_M_isSign  S14 (60 : Int32)) fun r117 S118 => (if r117 = 0 then bd (f_M_isSign  S118 (61 : Int32)) fun r130 S131 => (if r130 = 0 then bd (f_M_isSign  S131 (62 : Int32)) fun r143 S144 => (if r143 = 0 then bd (f_M_must  S144 (0 : Int32)) fun r147 S148 => bd (f_M_value  S148) fun r150 S151 => bd (f_M_tells  S151 (20002 : Int32)) fun r153 S154 => some ((0 : Int32), S154) else bd (f_M_must  S144 (1 : Int32)) fun r156 S157 => bd (f_M_value  S157) fun r159 S160 => bd (f_M_tells  S160 (20002 : Int32)) fun r162 S163 => some ((0 : Int32), S163)) else bd (f_M_must  S131 (1 : Int32)) fun r134 S135 => bd (f_M_value  S135) fun r137 S138 => bd (f_M_tells  S138 (20002 : Int32)) fun r140 S141 => some ((0 : Int32), S141)) else bd (f_M_must  S118 (1 : Int32)) fun r121 S122 => bd (f_M_value  S122) fun r124 S125 => bd (f_M_tells  S125 (20002 : Int32)) fun r127 S128 => some ((0 : Int32), S128))) else (if (3 : Int32) ≤ (gI S7 191 10) then bd (f_M_must  S7 (0 : Int32)) fun r166 S167 => bd (f_M_condition oc (uI S167 191 10 ((gI S167 191 10) + (1 : Int32)))) fun r169 S170 => bd (f_M_isSign  (uI S170 191 10 ((gI S170 191 10) - (1 : Int32))) (41 : Int32)) fun r172 S173 => bd (f_M_must  S173 r172) fun r175 S176 => some ((0 : Int32), S176) else bd (f_M_must  S7 (1 : Int32)) fun r178 S179 => bd (f_M_condition oc (uI S179 191 10 ((gI S179 191 10) + (1 : Int32)))) fun r181 S182 => bd (f_M_isSign  (uI S182 191 10 ((gI S182 191 10) - (1 : Int32))) (41 : Int32)) fun r184 S185 => bd (f_M_must  S185 r184) fun r187 S188 => some ((0 : Int32), S188))) else bd (f_M_must  S3 (1 : Int32)) fun r190 S191 => bd (oc S191) fun r193 S194 => bd (f_M_tells  S194 (20005 : Int32)) fun r196 S197 => some ((0 : Int32), S197)) else some ((0 : Int32), S))
theorem c_M_one (w : Wd) (d : Nat) (c : cx) {oc : hs → Option (Int32 × hs)} (oc_ok : ∀ (D : Nat), d ≤ D → ∀ (S : hs)  (z : Int32 × hs), oc S  = some z → Cl w D m_M_one [.ref 191] (mk c S) (none) (mk c z.2)) (S : hs)   {z : Int32 × hs} (H : f_M_one oc S = some z) : Cl w (d + 9) m_M_one [.ref 191] (mk c S) (none) (mk c z.2) := by
  refine Cl.of (Nat.le_refl _) (Nat.le_refl _) (by decide +kernel) (Nat.le_of_ble_eq_true rfl) ?_
  unfold f_M_one at H
  generalize hN (mk c S) = n0
  generalize hZ (mk c S) = z0
  show J w (d + 9) m_M_one (n0, z0, none, mk c z.2) 0 [some (.ref 191), none] [] (mk c S)
  refine J.run b_M_one_0_2 k_M_one_0_2 rfl (And.intro (okO_st (S := S) rfl) (show J w (d + 9) m_M_one (n0, z0, none, mk c z.2) 4 [some (.ref 191), none] [.int (gI S 191 9)] (mk c S) from ?_))
  refine J.zeq (tgt := 8) d_M_one_4 rfl (fun q1 => ?_) (fun q1 => ?_)
  · have H := ite_t H q1
    refine J.run b_M_one_8_2 k_M_one_8_2 rfl (show J w (d + 9) m_M_one (n0, z0, none, mk c z.2) 11 [some (.ref 191), none] [.ref 15, .ref 191] (mk c S) from ?_)
    obtain ⟨r2, S3, h4, H⟩ := bd_e H
    refine J.callV (y := m_M_isWord) (av := [.ref 15]) (rest := []) (q := 191) l_M_227 d_M_one_11 (isC_st rfl rfl) (c_M_isWord w (d + 2) c  S 15 (by decide) h4) rfl (Nat.le_of_ble_eq_true rfl) ⟨Nat.le_refl _, Nat.le_refl _⟩ (show J w (d + 9) m_M_one (n0, z0, none, mk c z.2) 14 [some (.ref 191), none] [.int r2] (mk c S3) from ?_)
    refine J.zeq (tgt := 36) d_M_one_14 rfl (fun q5 => ?_) (fun q5 => ?_)
    · have H := ite_t H q5
      refine J.run b_M_one_36_2 k_M_one_36_2 rfl (show J w (d + 9) m_M_one (n0, z0, none, mk c z.2) 39 [some (.ref 191), none] [.int (40 : Int32), .ref 191] (mk c S3) from ?_)
      obtain ⟨r6, S7, h8, H⟩ := bd_e H
      refine J.callV (y := m_M_isSign) (av := [.int (40 : Int32)]) (rest := []) (q := 191) l_M_246 d_M_one_39 (isC_st rfl rfl) (c_M_isSign w (d + 7) c  S3 (40 : Int32) h8) rfl (Nat.le_of_ble_eq_true rfl) ⟨Nat.le_refl _, Nat.le_refl _⟩ (show J w (d + 9) m_M_one (n0, z0, none, mk c z.2) 42 [some (.ref 191), none] [.int r6] (mk c S7) from ?_)
      refine J.zeq (tgt := 99) d_M_one_42 rfl (fun q9 => ?_) (fun q9 => ?_)
      · have H := ite_t H q9
        refine J.run b_M_one_99_1 k_M_one_99_1 rfl (show J w (d + 9) m_M_one (n0, z0, none, mk c z.2) 100 [some (.ref 191), none] [.ref 191] (mk c S7) from ?_)
        obtain ⟨r10, S11, h12, H⟩ := bd_e H
        refine J.callV (y := m_M_value) (av := []) (rest := []) (q := 191) l_M_255 d_M_one_100 (isC_st rfl rfl) (c_M_value w (d + 1) c  S7 h12) rfl (Nat.le_of_ble_eq_true rfl) ⟨Nat.le_refl _, Nat.le_refl _⟩ (show J w (d + 9) m_M_one (n0, z0, none, mk c z.2) 103 [some (.ref 191), none] [] (mk c S11) from ?_)
        refine J.run b_M_one_103_2 k_M_one_103_2 rfl (show J w (d + 9) m_M_one (n0, z0, none, mk c z.2) 106 [some (.ref 191), none] [.int (60 : Int32), .ref 191] (mk c S11) from ?_)
        obtain ⟨r13, S14, h15, H⟩ := bd_e H
        refine J.callV (y := m_M_isSign) (av := [.int (60 : Int32)]) (rest := []) (q := 191) l_M_246 d_M_one_106 (isC_st rfl rfl) (c_M_isSign w (d + 7) c  S11 (60 : Int32) h15) rfl (Nat.le_of_ble_eq_true rfl) ⟨Nat.le_refl _, Nat.le_refl _⟩ (show J w (d + 9) m_M_one (n0, z0, none, mk c z.2) 109 [some (.ref 191), none] [.int r13] (mk c S14) from ?_)
        refine J.zeq (tgt := 118) d_M_one_109 rfl (fun q16 => ?_) (fun q16 => ?_)
        · have H := ite_t H q16
          refine J.run b_M_one_118_2 k_M_one_118_2 rfl (show J w (d + 9) m_M_one (n0, z0, none, mk c z.2) 121 [some (.ref 191), none] [.int (61 : Int32), .ref 191] (mk c S14) from ?_)
          obtain ⟨r17, S18, h19, H⟩ := bd_e H
          refine J.callV (y := m_M_isSign) (av := [.int (61 : Int32)]) (rest := []) (q := 191) l_M_246 d_M_one_121 (isC_st rfl rfl) (c_M_isSign w (d + 7) c  S14 (61 : Int32) h19) rfl (Nat.le_of_ble_eq_true rfl) ⟨Nat.le_refl _, Nat.le_refl _⟩ (show J w (d + 9) m_M_one (n0, z0, none, mk c z.2) 124 [some (.ref 191), none] [.int r17] (mk c S18) from ?_)
          refine J.zeq (tgt := 133) d_M_one_124 rfl (fun q20 => ?_) (fun q20 => ?_)
          · have H := ite_t H q20
            refine J.run b_M_one_133_5 k_M_one_133_5 rfl (show J w (d + 9) m_M_one (n0, z0, none, mk c z.2) 141 [some (.ref 191), some (.int (20004 : Int32))] [.int (60 : Int32), .ref 191, .ref 191] (mk c S18) from ?_)
            obtain ⟨r21, S22, h23, H⟩ := bd_e H
            refine J.callV (y := m_M_isSign) (av := [.int (60 : Int32)]) (rest := [.ref 191]) (q := 191) l_M_246 d_M_one_141 (isC_st rfl rfl) (c_M_isSign w (d + 7) c  S18 (60 : Int32) h23) rfl (Nat.le_of_ble_eq_true rfl) ⟨Nat.le_refl _, Nat.le_refl _⟩ (show J w (d + 9) m_M_one (n0, z0, none, mk c z.2) 144 [some (.ref 191), some (.int (20004 : Int32))] [.int r21, .ref 191] (mk c S22) from ?_)
            refine J.zne (tgt := 165) d_M_one_144 rfl (fun q24 => ?_) (fun q24 => ?_)
            · have H := ite_f H q24
              refine J.run b_M_one_165_1 k_M_one_165_1 rfl (show J w (d + 9) m_M_one (n0, z0, none, mk c z.2) 166 [some (.ref 191), some (.int (20004 : Int32))] [.int (1 : Int32), .ref 191] (mk c S22) from ?_)
              refine J.goto (tgt := 170) d_M_one_166 rfl ?_
              obtain ⟨r25, S26, h27, H⟩ := bd_e H
              refine J.callV (y := m_M_must) (av := [.int (1 : Int32)]) (rest := []) (q := 191) l_M_231 d_M_one_170 (isC_st rfl rfl) (c_M_must w (d + 4) c  S22 (1 : Int32) h27) rfl (Nat.le_of_ble_eq_true rfl) ⟨Nat.le_refl _, Nat.le_refl _⟩ (show J w (d + 9) m_M_one (n0, z0, none, mk c z.2) 173 [some (.ref 191), some (.int (20004 : Int32))] [] (mk c S26) from ?_)
              refine J.run b_M_one_173_1 k_M_one_173_1 rfl (show J w (d + 9) m_M_one (n0, z0, none, mk c z.2) 174 [some (.ref 191), some (.int (20004 : Int32))] [.ref 191] (mk c S26) from ?_)
              obtain ⟨r28, S29, h30, H⟩ := bd_e H
              refine J.callV (y := m_M_value) (av := []) (rest := []) (q := 191) l_M_255 d_M_one_174 (isC_st rfl rfl) (c_M_value w (d + 1) c  S26 h30) rfl (Nat.le_of_ble_eq_true rfl) ⟨Nat.le_refl _, Nat.le_refl _⟩ (show J w (d + 9) m_M_one (n0, z0, none, mk c z.2) 177 [some (.ref 191), some (.int (20004 : Int32))] [] (mk c S29) from ?_)
              refine J.run b_M_one_177_2 k_M_one_177_2 rfl (show J w (d + 9) m_M_one (n0, z0, none, mk c z.2) 179 [some (.ref 191), some (.int (20004 : Int32))] [.int (20004 : Int32), .ref 191] (mk c S29) from ?_)
              obtain ⟨r31, S32, h33, H⟩ := bd_e H
              refine J.callV (y := m_M_tells) (av := [.int (20004 : Int32)]) (rest := []) (q := 191) l_M_235 d_M_one_179 (isC_st rfl rfl) (c_M_tells w (d + 7) c  S29 (20004 : Int32) h33) rfl (Nat.le_of_ble_eq_true rfl) ⟨Nat.le_refl _, Nat.le_refl _⟩ (show J w (d + 9) m_M_one (n0, z0, none, mk c z.2) 182 [some (.ref 191), some (.int (20004 : Int32))] [] (mk c S32) from ?_)
              obtain rfl := some_e H
              exact J.vret d_M_one_182 rfl rfl
            · have H := ite_t H q24
              refine J.run b_M_one_147_2 k_M_one_147_2 rfl (show J w (d + 9) m_M_one (n0, z0, none, mk c z.2) 150 [some (.ref 191), some (.int (20004 : Int32))] [.int (61 : Int32), .ref 191, .ref 191] (mk c S22) from ?_)
              obtain ⟨r34, S35, h36, H⟩ := bd_e H
              refine J.callV (y := m_M_isSign) (av := [.int (61 : Int32)]) (rest := [.ref 191]) (q := 191) l_M_246 d_M_one_150 (isC_st rfl rfl) (c_M_isSign w (d + 7) c  S22 (61 : Int32) h36) rfl (Nat.le_of_ble_eq_true rfl) ⟨Nat.le_refl _, Nat.le_refl _⟩ (show J w (d + 9) m_M_one (n0, z0, none, mk c z.2) 153 [some (.ref 191), some (.int (20004 : Int32))] [.int r34, .ref 191] (mk c S35) from ?_)
              refine J.zne (tgt := 165) d_M_one_153 rfl (fun q37 => ?_) (fun q37 => ?_)
              · have H := ite_f H q37
                refine J.run b_M_one_165_1 k_M_one_165_1 rfl (show J w (d + 9) m_M_one (n0, z0, none, mk c z.2) 166 [some (.ref 191), some (.int (20004 : Int32))] [.int (1 : Int32), .ref 191] (mk c S35) from ?_)
                refine J.goto (tgt := 170) d_M_one_166 rfl ?_
                obtain ⟨r38, S39, h40, H⟩ := bd_e H
                refine J.callV (y := m_M_must) (av := [.int (1 : Int32)]) (rest := []) (q := 191) l_M_231 d_M_one_170 (isC_st rfl rfl) (c_M_must w (d + 4) c  S35 (1 : Int32) h40) rfl (Nat.le_of_ble_eq_true rfl) ⟨Nat.le_refl _, Nat.le_refl _⟩ (show J w (d + 9) m_M_one (n0, z0, none, mk c z.2) 173 [some (.ref 191), some (.int (20004 : Int32))] [] (mk c S39) from ?_)
                refine J.run b_M_one_173_1 k_M_one_173_1 rfl (show J w (d + 9) m_M_one (n0, z0, none, mk c z.2) 174 [some (.ref 191), some (.int (20004 : Int32))] [.ref 191] (mk c S39) from ?_)
                obtain ⟨r41, S42, h43, H⟩ := bd_e H
                refine J.callV (y := m_M_value) (av := []) (rest := []) (q := 191) l_M_255 d_M_one_174 (isC_st rfl rfl) (c_M_value w (d + 1) c  S39 h43) rfl (Nat.le_of_ble_eq_true rfl) ⟨Nat.le_refl _, Nat.le_refl _⟩ (show J w (d + 9) m_M_one (n0, z0, none, mk c z.2) 177 [some (.ref 191), some (.int (20004 : Int32))] [] (mk c S42) from ?_)
                refine J.run b_M_one_177_2 k_M_one_177_2 rfl (show J w (d + 9) m_M_one (n0, z0, none, mk c z.2) 179 [some (.ref 191), some (.int (20004 : Int32))] [.int (20004 : Int32), .ref 191] (mk c S42) from ?_)
                obtain ⟨r44, S45, h46, H⟩ := bd_e H
                refine J.callV (y := m_M_tells) (av := [.int (20004 : Int32)]) (rest := []) (q := 191) l_M_235 d_M_one_179 (isC_st rfl rfl) (c_M_tells w (d + 7) c  S42 (20004 : Int32) h46) rfl (Nat.le_of_ble_eq_true rfl) ⟨Nat.le_refl _, Nat.le_refl _⟩ (show J w (d + 9) m_M_one (n0, z0, none, mk c z.2) 182 [some (.ref 191), some (.int (20004 : Int32))] [] (mk c S45) from ?_)
                obtain rfl := some_e H
                exact J.vret d_M_one_182 rfl rfl
              · have H := ite_t H q37
                refine J.run b_M_one_156_2 k_M_one_156_2 rfl (show J w (d + 9) m_M_one (n0, z0, none, mk c z.2) 159 [some (.ref 191), some (.int (20004 : Int32))] [.int (62 : Int32), .ref 191, .ref 191] (mk c S35) from ?_)
                obtain ⟨r47, S48, h49, H⟩ := bd_e H
                refine J.callV (y := m_M_isSign) (av := [.int (62 : Int32)]) (rest := [.ref 191]) (q := 191) l_M_246 d_M_one_159 (isC_st rfl rfl) (c_M_isSign w (d + 7) c  S35 (62 : Int32) h49) rfl (Nat.le_of_ble_eq_true rfl) ⟨Nat.le_refl _, Nat.le_refl _⟩ (show J w (d + 9) m_M_one (n0, z0, none, mk c z.2) 162 [some (.ref 191), some (.int (20004 : Int32))] [.int r47, .ref 191] (mk c S48) from ?_)
                refine J.zeq (tgt := 169) d_M_one_162 rfl (fun q50 => ?_) (fun q50 => ?_)
                · have H := ite_t H q50
                  refine J.run b_M_one_169_1 k_M_one_169_1 rfl (show J w (d + 9) m_M_one (n0, z0, none, mk c z.2) 170 [some (.ref 191), some (.int (20004 : Int32))] [.int (0 : Int32), .ref 191] (mk c S48) from ?_)
                  obtain ⟨r51, S52, h53, H⟩ := bd_e H
                  refine J.callV (y := m_M_must) (av := [.int (0 : Int32)]) (rest := []) (q := 191) l_M_231 d_M_one_170 (isC_st rfl rfl) (c_M_must w (d + 4) c  S48 (0 : Int32) h53) rfl (Nat.le_of_ble_eq_true rfl) ⟨Nat.le_refl _, Nat.le_refl _⟩ (show J w (d + 9) m_M_one (n0, z0, none, mk c z.2) 173 [some (.ref 191), some (.int (20004 : Int32))] [] (mk c S52) from ?_)
                  refine J.run b_M_one_173_1 k_M_one_173_1 rfl (show J w (d + 9) m_M_one (n0, z0, none, mk c z.2) 174 [some (.ref 191), some (.int (20004 : Int32))] [.ref 191] (mk c S52) from ?_)
                  obtain ⟨r54, S55, h56, H⟩ := bd_e H
                  refine J.callV (y := m_M_value) (av := []) (rest := []) (q := 191) l_M_255 d_M_one_174 (isC_st rfl rfl) (c_M_value w (d + 1) c  S52 h56) rfl (Nat.le_of_ble_eq_true rfl) ⟨Nat.le_refl _, Nat.le_refl _⟩ (show J w (d + 9) m_M_one (n0, z0, none, mk c z.2) 177 [some (.ref 191), some (.int (20004 : Int32))] [] (mk c S55) from ?_)
                  refine J.run b_M_one_177_2 k_M_one_177_2 rfl (show J w (d + 9) m_M_one (n0, z0, none, mk c z.2) 179 [some (.ref 191), some (.int (20004 : Int32))] [.int (20004 : Int32), .ref 191] (mk c S55) from ?_)
                  obtain ⟨r57, S58, h59, H⟩ := bd_e H
                  refine J.callV (y := m_M_tells) (av := [.int (20004 : Int32)]) (rest := []) (q := 191) l_M_235 d_M_one_179 (isC_st rfl rfl) (c_M_tells w (d + 7) c  S55 (20004 : Int32) h59) rfl (Nat.le_of_ble_eq_true rfl) ⟨Nat.le_refl _, Nat.le_refl _⟩ (show J w (d + 9) m_M_one (n0, z0, none, mk c z.2) 182 [some (.ref 191), some (.int (20004 : Int32))] [] (mk c S58) from ?_)
                  obtain rfl := some_e H
                  exact J.vret d_M_one_182 rfl rfl
                · have H := ite_f H q50
                  refine J.run b_M_one_165_1 k_M_one_165_1 rfl (show J w (d + 9) m_M_one (n0, z0, none, mk c z.2) 166 [some (.ref 191), some (.int (20004 : Int32))] [.int (1 : Int32), .ref 191] (mk c S48) from ?_)
                  refine J.goto (tgt := 170) d_M_one_166 rfl ?_
                  obtain ⟨r60, S61, h62, H⟩ := bd_e H
                  refine J.callV (y := m_M_must) (av := [.int (1 : Int32)]) (rest := []) (q := 191) l_M_231 d_M_one_170 (isC_st rfl rfl) (c_M_must w (d + 4) c  S48 (1 : Int32) h62) rfl (Nat.le_of_ble_eq_true rfl) ⟨Nat.le_refl _, Nat.le_refl _⟩ (show J w (d + 9) m_M_one (n0, z0, none, mk c z.2) 173 [some (.ref 191), some (.int (20004 : Int32))] [] (mk c S61) from ?_)
                  refine J.run b_M_one_173_1 k_M_one_173_1 rfl (show J w (d + 9) m_M_one (n0, z0, none, mk c z.2) 174 [some (.ref 191), some (.int (20004 : Int32))] [.ref 191] (mk c S61) from ?_)
                  obtain ⟨r63, S64, h65, H⟩ := bd_e H
                  refine J.callV (y := m_M_value) (av := []) (rest := []) (q := 191) l_M_255 d_M_one_174 (isC_st rfl rfl) (c_M_value w (d + 1) c  S61 h65) rfl (Nat.le_of_ble_eq_true rfl) ⟨Nat.le_refl _, Nat.le_refl _⟩ (show J w (d + 9) m_M_one (n0, z0, none, mk c z.2) 177 [some (.ref 191), some (.int (20004 : Int32))] [] (mk c S64) from ?_)
                  refine J.run b_M_one_177_2 k_M_one_177_2 rfl (show J w (d + 9) m_M_one (n0, z0, none, mk c z.2) 179 [some (.ref 191), some (.int (20004 : Int32))] [.int (20004 : Int32), .ref 191] (mk c S64) from ?_)
                  obtain ⟨r66, S67, h68, H⟩ := bd_e H
                  refine J.callV (y := m_M_tells) (av := [.int (20004 : Int32)]) (rest := []) (q := 191) l_M_235 d_M_one_179 (isC_st rfl rfl) (c_M_tells w (d + 7) c  S64 (20004 : Int32) h68) rfl (Nat.le_of_ble_eq_true rfl) ⟨Nat.le_refl _, Nat.le_refl _⟩ (show J w (d + 9) m_M_one (n0, z0, none, mk c z.2) 182 [some (.ref 191), some (.int (20004 : Int32))] [] (mk c S67) from ?_)
                  obtain rfl := some_e H
                  exact J.vret d_M_one_182 rfl rfl
          · have H := ite_f H q20
            refine J.run b_M_one_127_1 k_M_one_127_1 rfl (show J w (d + 9) m_M_one (n0, z0, none, mk c z.2) 130 [some (.ref 191), none] [.int (20003 : Int32)] (mk c S18) from ?_)
            refine J.goto (tgt := 136) d_M_one_130 rfl ?_
            refine J.run b_M_one_136_4 k_M_one_136_4 rfl (show J w (d + 9) m_M_one (n0, z0, none, mk c z.2) 141 [some (.ref 191), some (.int (20003 : Int32))] [.int (60 : Int32), .ref 191, .ref 191] (mk c S18) from ?_)
            obtain ⟨r69, S70, h71, H⟩ := bd_e H
            refine J.callV (y := m_M_isSign) (av := [.int (60 : Int32)]) (rest := [.ref 191]) (q := 191) l_M_246 d_M_one_141 (isC_st rfl rfl) (c_M_isSign w (d + 7) c  S18 (60 : Int32) h71) rfl (Nat.le_of_ble_eq_true rfl) ⟨Nat.le_refl _, Nat.le_refl _⟩ (show J w (d + 9) m_M_one (n0, z0, none, mk c z.2) 144 [some (.ref 191), some (.int (20003 : Int32))] [.int r69, .ref 191] (mk c S70) from ?_)
            refine J.zne (tgt := 165) d_M_one_144 rfl (fun q72 => ?_) (fun q72 => ?_)
            · have H := ite_f H q72
              refine J.run b_M_one_165_1 k_M_one_165_1 rfl (show J w (d + 9) m_M_one (n0, z0, none, mk c z.2) 166 [some (.ref 191), some (.int (20003 : Int32))] [.int (1 : Int32), .ref 191] (mk c S70) from ?_)
              refine J.goto (tgt := 170) d_M_one_166 rfl ?_
              obtain ⟨r73, S74, h75, H⟩ := bd_e H
              refine J.callV (y := m_M_must) (av := [.int (1 : Int32)]) (rest := []) (q := 191) l_M_231 d_M_one_170 (isC_st rfl rfl) (c_M_must w (d + 4) c  S70 (1 : Int32) h75) rfl (Nat.le_of_ble_eq_true rfl) ⟨Nat.le_refl _, Nat.le_refl _⟩ (show J w (d + 9) m_M_one (n0, z0, none, mk c z.2) 173 [some (.ref 191), some (.int (20003 : Int32))] [] (mk c S74) from ?_)
              refine J.run b_M_one_173_1 k_M_one_173_1 rfl (show J w (d + 9) m_M_one (n0, z0, none, mk c z.2) 174 [some (.ref 191), some (.int (20003 : Int32))] [.ref 191] (mk c S74) from ?_)
              obtain ⟨r76, S77, h78, H⟩ := bd_e H
              refine J.callV (y := m_M_value) (av := []) (rest := []) (q := 191) l_M_255 d_M_one_174 (isC_st rfl rfl) (c_M_value w (d + 1) c  S74 h78) rfl (Nat.le_of_ble_eq_true rfl) ⟨Nat.le_refl _, Nat.le_refl _⟩ (show J w (d + 9) m_M_one (n0, z0, none, mk c z.2) 177 [some (.ref 191), some (.int (20003 : Int32))] [] (mk c S77) from ?_)
              refine J.run b_M_one_177_2 k_M_one_177_2 rfl (show J w (d + 9) m_M_one (n0, z0, none, mk c z.2) 179 [some (.ref 191), some (.int (20003 : Int32))] [.int (20003 : Int32), .ref 191] (mk c S77) from ?_)
              obtain ⟨r79, S80, h81, H⟩ := bd_e H
              refine J.callV (y := m_M_tells) (av := [.int (20003 : Int32)]) (rest := []) (q := 191) l_M_235 d_M_one_179 (isC_st rfl rfl) (c_M_tells w (d + 7) c  S77 (20003 : Int32) h81) rfl (Nat.le_of_ble_eq_true rfl) ⟨Nat.le_refl _, Nat.le_refl _⟩ (show J w (d + 9) m_M_one (n0, z0, none, mk c z.2) 182 [some (.ref 191), some (.int (20003 : Int32))] [] (mk c S80) from ?_)
              obtain rfl := some_e H
              exact J.vret d_M_one_182 rfl rfl
            · have H := ite_t H q72
              refine J.run b_M_one_147_2 k_M_one_147_2 rfl (show J w (d + 9) m_M_one (n0, z0, none, mk c z.2) 150 [some (.ref 191), some (.int (20003 : Int32))] [.int (61 : Int32), .ref 191, .ref 191] (mk c S70) from ?_)
              obtain ⟨r82, S83, h84, H⟩ := bd_e H
              refine J.callV (y := m_M_isSign) (av := [.int (61 : Int32)]) (rest := [.ref 191]) (q := 191) l_M_246 d_M_one_150 (isC_st rfl rfl) (c_M_isSign w (d + 7) c  S70 (61 : Int32) h84) rfl (Nat.le_of_ble_eq_true rfl) ⟨Nat.le_refl _, Nat.le_refl _⟩ (show J w (d + 9) m_M_one (n0, z0, none, mk c z.2) 153 [some (.ref 191), some (.int (20003 : Int32))] [.int r82, .ref 191] (mk c S83) from ?_)
              refine J.zne (tgt := 165) d_M_one_153 rfl (fun q85 => ?_) (fun q85 => ?_)
              · have H := ite_f H q85
                refine J.run b_M_one_165_1 k_M_one_165_1 rfl (show J w (d + 9) m_M_one (n0, z0, none, mk c z.2) 166 [some (.ref 191), some (.int (20003 : Int32))] [.int (1 : Int32), .ref 191] (mk c S83) from ?_)
                refine J.goto (tgt := 170) d_M_one_166 rfl ?_
                obtain ⟨r86, S87, h88, H⟩ := bd_e H
                refine J.callV (y := m_M_must) (av := [.int (1 : Int32)]) (rest := []) (q := 191) l_M_231 d_M_one_170 (isC_st rfl rfl) (c_M_must w (d + 4) c  S83 (1 : Int32) h88) rfl (Nat.le_of_ble_eq_true rfl) ⟨Nat.le_refl _, Nat.le_refl _⟩ (show J w (d + 9) m_M_one (n0, z0, none, mk c z.2) 173 [some (.ref 191), some (.int (20003 : Int32))] [] (mk c S87) from ?_)
                refine J.run b_M_one_173_1 k_M_one_173_1 rfl (show J w (d + 9) m_M_one (n0, z0, none, mk c z.2) 174 [some (.ref 191), some (.int (20003 : Int32))] [.ref 191] (mk c S87) from ?_)
                obtain ⟨r89, S90, h91, H⟩ := bd_e H
                refine J.callV (y := m_M_value) (av := []) (rest := []) (q := 191) l_M_255 d_M_one_174 (isC_st rfl rfl) (c_M_value w (d + 1) c  S87 h91) rfl (Nat.le_of_ble_eq_true rfl) ⟨Nat.le_refl _, Nat.le_refl _⟩ (show J w (d + 9) m_M_one (n0, z0, none, mk c z.2) 177 [some (.ref 191), some (.int (20003 : Int32))] [] (mk c S90) from ?_)
                refine J.run b_M_one_177_2 k_M_one_177_2 rfl (show J w (d + 9) m_M_one (n0, z0, none, mk c z.2) 179 [some (.ref 191), some (.int (20003 : Int32))] [.int (20003 : Int32), .ref 191] (mk c S90) from ?_)
                obtain ⟨r92, S93, h94, H⟩ := bd_e H
                refine J.callV (y := m_M_tells) (av := [.int (20003 : Int32)]) (rest := []) (q := 191) l_M_235 d_M_one_179 (isC_st rfl rfl) (c_M_tells w (d + 7) c  S90 (20003 : Int32) h94) rfl (Nat.le_of_ble_eq_true rfl) ⟨Nat.le_refl _, Nat.le_refl _⟩ (show J w (d + 9) m_M_one (n0, z0, none, mk c z.2) 182 [some (.ref 191), some (.int (20003 : Int32))] [] (mk c S93) from ?_)
                obtain rfl := some_e H
                exact J.vret d_M_one_182 rfl rfl
              · have H := ite_t H q85
                refine J.run b_M_one_156_2 k_M_one_156_2 rfl (show J w (d + 9) m_M_one (n0, z0, none, mk c z.2) 159 [some (.ref 191), some (.int (20003 : Int32))] [.int (62 : Int32), .ref 191, .ref 191] (mk c S83) from ?_)
                obtain ⟨r95, S96, h97, H⟩ := bd_e H
                refine J.callV (y := m_M_isSign) (av := [.int (62 : Int32)]) (rest := [.ref 191]) (q := 191) l_M_246 d_M_one_159 (isC_st rfl rfl) (c_M_isSign w (d + 7) c  S83 (62 : Int32) h97) rfl (Nat.le_of_ble_eq_true rfl) ⟨Nat.le_refl _, Nat.le_refl _⟩ (show J w (d + 9) m_M_one (n0, z0, none, mk c z.2) 162 [some (.ref 191), some (.int (20003 : Int32))] [.int r95, .ref 191] (mk c S96) from ?_)
                refine J.zeq (tgt := 169) d_M_one_162 rfl (fun q98 => ?_) (fun q98 => ?_)
                · have H := ite_t H q98
                  refine J.run b_M_one_169_1 k_M_one_169_1 rfl (show J w (d + 9) m_M_one (n0, z0, none, mk c z.2) 170 [some (.ref 191), some (.int (20003 : Int32))] [.int (0 : Int32), .ref 191] (mk c S96) from ?_)
                  obtain ⟨r99, S100, h101, H⟩ := bd_e H
                  refine J.callV (y := m_M_must) (av := [.int (0 : Int32)]) (rest := []) (q := 191) l_M_231 d_M_one_170 (isC_st rfl rfl) (c_M_must w (d + 4) c  S96 (0 : Int32) h101) rfl (Nat.le_of_ble_eq_true rfl) ⟨Nat.le_refl _, Nat.le_refl _⟩ (show J w (d + 9) m_M_one (n0, z0, none, mk c z.2) 173 [some (.ref 191), some (.int (20003 : Int32))] [] (mk c S100) from ?_)
                  refine J.run b_M_one_173_1 k_M_one_173_1 rfl (show J w (d + 9) m_M_one (n0, z0, none, mk c z.2) 174 [some (.ref 191), some (.int (20003 : Int32))] [.ref 191] (mk c S100) from ?_)
                  obtain ⟨r102, S103, h104, H⟩ := bd_e H
                  refine J.callV (y := m_M_value) (av := []) (rest := []) (q := 191) l_M_255 d_M_one_174 (isC_st rfl rfl) (c_M_value w (d + 1) c  S100 h104) rfl (Nat.le_of_ble_eq_true rfl) ⟨Nat.le_refl _, Nat.le_refl _⟩ (show J w (d + 9) m_M_one (n0, z0, none, mk c z.2) 177 [some (.ref 191), some (.int (20003 : Int32))] [] (mk c S103) from ?_)
                  refine J.run b_M_one_177_2 k_M_one_177_2 rfl (show J w (d + 9) m_M_one (n0, z0, none, mk c z.2) 179 [some (.ref 191), some (.int (20003 : Int32))] [.int (20003 : Int32), .ref 191] (mk c S103) from ?_)
                  obtain ⟨r105, S106, h107, H⟩ := bd_e H
                  refine J.callV (y := m_M_tells) (av := [.int (20003 : Int32)]) (rest := []) (q := 191) l_M_235 d_M_one_179 (isC_st rfl rfl) (c_M_tells w (d + 7) c  S103 (20003 : Int32) h107) rfl (Nat.le_of_ble_eq_true rfl) ⟨Nat.le_refl _, Nat.le_refl _⟩ (show J w (d + 9) m_M_one (n0, z0, none, mk c z.2) 182 [some (.ref 191), some (.int (20003 : Int32))] [] (mk c S106) from ?_)
                  obtain rfl := some_e H
                  exact J.vret d_M_one_182 rfl rfl
                · have H := ite_f H q98
                  refine J.run b_M_one_165_1 k_M_one_165_1 rfl (show J w (d + 9) m_M_one (n0, z0, none, mk c z.2) 166 [some (.ref 191), some (.int (20003 : Int32))] [.int (1 : Int32), .ref 191] (mk c S96) from ?_)
                  refine J.goto (tgt := 170) d_M_one_166 rfl ?_
                  obtain ⟨r108, S109, h110, H⟩ := bd_e H
                  refine J.callV (y := m_M_must) (av := [.int (1 : Int32)]) (rest := []) (q := 191) l_M_231 d_M_one_170 (isC_st rfl rfl) (c_M_must w (d + 4) c  S96 (1 : Int32) h110) rfl (Nat.le_of_ble_eq_true rfl) ⟨Nat.le_refl _, Nat.le_refl _⟩ (show J w (d + 9) m_M_one (n0, z0, none, mk c z.2) 173 [some (.ref 191), some (.int (20003 : Int32))] [] (mk c S109) from ?_)
                  refine J.run b_M_one_173_1 k_M_one_173_1 rfl (show J w (d + 9) m_M_one (n0, z0, none, mk c z.2) 174 [some (.ref 191), some (.int (20003 : Int32))] [.ref 191] (mk c S109) from ?_)
                  obtain ⟨r111, S112, h113, H⟩ := bd_e H
                  refine J.callV (y := m_M_value) (av := []) (rest := []) (q := 191) l_M_255 d_M_one_174 (isC_st rfl rfl) (c_M_value w (d + 1) c  S109 h113) rfl (Nat.le_of_ble_eq_true rfl) ⟨Nat.le_refl _, Nat.le_refl _⟩ (show J w (d + 9) m_M_one (n0, z0, none, mk c z.2) 177 [some (.ref 191), some (.int (20003 : Int32))] [] (mk c S112) from ?_)
                  refine J.run b_M_one_177_2 k_M_one_177_2 rfl (show J w (d + 9) m_M_one (n0, z0, none, mk c z.2) 179 [some (.ref 191), some (.int (20003 : Int32))] [.int (20003 : Int32), .ref 191] (mk c S112) from ?_)
                  obtain ⟨r114, S115, h116, H⟩ := bd_e H
                  refine J.callV (y := m_M_tells) (av := [.int (20003 : Int32)]) (rest := []) (q := 191) l_M_235 d_M_one_179 (isC_st rfl rfl) (c_M_tells w (d + 7) c  S112 (20003 : Int32) h116) rfl (Nat.le_of_ble_eq_true rfl) ⟨Nat.le_refl _, Nat.le_refl _⟩ (show J w (d + 9) m_M_one (n0, z0, none, mk c z.2) 182 [some (.ref 191), some (.int (20003 : Int32))] [] (mk c S115) from ?_)
                  obtain rfl := some_e H
                  exact J.vret d_M_one_182 rfl rfl
        · have H := ite_f H q16
          refine J.run b_M_one_112_1 k_M_one_112_1 rfl (show J w (d + 9) m_M_one (n0, z0, none, mk c z.2) 115 [some (.ref 191), none] [.int (20002 : Int32)] (mk c S14) from ?_)
          refine J.goto (tgt := 136) d_M_one_115 rfl ?_
          refine J.run b_M_one_136_4 k_M_one_136_4 rfl (show J w (d + 9) m_M_one (n0, z0, none, mk c z.2) 141 [some (.ref 191), some (.int (20002 : Int32))] [.int (60 : Int32), .ref 191, .ref 191] (mk c S14) from ?_)
          obtain ⟨r117, S118, h119, H⟩ := bd_e H
          refine J.callV (y := m_M_isSign) (av := [.int (60 : Int32)]) (rest := [.ref 191]) (q := 191) l_M_246 d_M_one_141 (isC_st rfl rfl) (c_M_isSign w (d + 7) c  S14 (60 : Int32) h119) rfl (Nat.le_of_ble_eq_true rfl) ⟨Nat.le_refl _, Nat.le_refl _⟩ (show J w (d + 9) m_M_one (n0, z0, none, mk c z.2) 144 [some (.ref 191), some (.int (20002 : Int32))] [.int r117, .ref 191] (mk c S118) from ?_)
          refine J.zne (tgt := 165) d_M_one_144 rfl (fun q120 => ?_) (fun q120 => ?_)
          · have H := ite_f H q120
            refine J.run b_M_one_165_1 k_M_one_165_1 rfl (show J w (d + 9) m_M_one (n0, z0, none, mk c z.2) 166 [some (.ref 191), some (.int (20002 : Int32))] [.int (1 : Int32), .ref 191] (mk c S118) from ?_)
            refine J.goto (tgt := 170) d_M_one_166 rfl ?_
            obtain ⟨r121, S122, h123, H⟩ := bd_e H
            refine J.callV (y := m_M_must) (av := [.int (1 : Int32)]) (rest := []) (q := 191) l_M_231 d_M_one_170 (isC_st rfl rfl) (c_M_must w (d + 4) c  S118 (1 : Int32) h123) rfl (Nat.le_of_ble_eq_true rfl) ⟨Nat.le_refl _, Nat.le_refl _⟩ (show J w (d + 9) m_M_one (n0, z0, none, mk c z.2) 173 [some (.ref 191), some (.int (20002 : Int32))] [] (mk c S122) from ?_)
            refine J.run b_M_one_173_1 k_M_one_173_1 rfl (show J w (d + 9) m_M_one (n0, z0, none, mk c z.2) 174 [some (.ref 191), some (.int (20002 : Int32))] [.ref 191] (mk c S122) from ?_)
            obtain ⟨r124, S125, h126, H⟩ := bd_e H
            refine J.callV (y := m_M_value) (av := []) (rest := []) (q := 191) l_M_255 d_M_one_174 (isC_st rfl rfl) (c_M_value w (d + 1) c  S122 h126) rfl (Nat.le_of_ble_eq_true rfl) ⟨Nat.le_refl _, Nat.le_refl _⟩ (show J w (d + 9) m_M_one (n0, z0, none, mk c z.2) 177 [some (.ref 191), some (.int (20002 : Int32))] [] (mk c S125) from ?_)
            refine J.run b_M_one_177_2 k_M_one_177_2 rfl (show J w (d + 9) m_M_one (n0, z0, none, mk c z.2) 179 [some (.ref 191), some (.int (20002 : Int32))] [.int (20002 : Int32), .ref 191] (mk c S125) from ?_)
            obtain ⟨r127, S128, h129, H⟩ := bd_e H
            refine J.callV (y := m_M_tells) (av := [.int (20002 : Int32)]) (rest := []) (q := 191) l_M_235 d_M_one_179 (isC_st rfl rfl) (c_M_tells w (d + 7) c  S125 (20002 : Int32) h129) rfl (Nat.le_of_ble_eq_true rfl) ⟨Nat.le_refl _, Nat.le_refl _⟩ (show J w (d + 9) m_M_one (n0, z0, none, mk c z.2) 182 [some (.ref 191), some (.int (20002 : Int32))] [] (mk c S128) from ?_)
            obtain rfl := some_e H
            exact J.vret d_M_one_182 rfl rfl
          · have H := ite_t H q120
            refine J.run b_M_one_147_2 k_M_one_147_2 rfl (show J w (d + 9) m_M_one (n0, z0, none, mk c z.2) 150 [some (.ref 191), some (.int (20002 : Int32))] [.int (61 : Int32), .ref 191, .ref 191] (mk c S118) from ?_)
            obtain ⟨r130, S131, h132, H⟩ := bd_e H
            refine J.callV (y := m_M_isSign) (av := [.int (61 : Int32)]) (rest := [.ref 191]) (q := 191) l_M_246 d_M_one_150 (isC_st rfl rfl) (c_M_isSign w (d + 7) c  S118 (61 : Int32) h132) rfl (Nat.le_of_ble_eq_true rfl) ⟨Nat.le_refl _, Nat.le_refl _⟩ (show J w (d + 9) m_M_one (n0, z0, none, mk c z.2) 153 [some (.ref 191), some (.int (20002 : Int32))] [.int r130, .ref 191] (mk c S131) from ?_)
            refine J.zne (tgt := 165) d_M_one_153 rfl (fun q133 => ?_) (fun q133 => ?_)
            · have H := ite_f H q133
              refine J.run b_M_one_165_1 k_M_one_165_1 rfl (show J w (d + 9) m_M_one (n0, z0, none, mk c z.2) 166 [some (.ref 191), some (.int (20002 : Int32))] [.int (1 : Int32), .ref 191] (mk c S131) from ?_)
              refine J.goto (tgt := 170) d_M_one_166 rfl ?_
              obtain ⟨r134, S135, h136, H⟩ := bd_e H
              refine J.callV (y := m_M_must) (av := [.int (1 : Int32)]) (rest := []) (q := 191) l_M_231 d_M_one_170 (isC_st rfl rfl) (c_M_must w (d + 4) c  S131 (1 : Int32) h136) rfl (Nat.le_of_ble_eq_true rfl) ⟨Nat.le_refl _, Nat.le_refl _⟩ (show J w (d + 9) m_M_one (n0, z0, none, mk c z.2) 173 [some (.ref 191), some (.int (20002 : Int32))] [] (mk c S135) from ?_)
              refine J.run b_M_one_173_1 k_M_one_173_1 rfl (show J w (d + 9) m_M_one (n0, z0, none, mk c z.2) 174 [some (.ref 191), some (.int (20002 : Int32))] [.ref 191] (mk c S135) from ?_)
              obtain ⟨r137, S138, h139, H⟩ := bd_e H
              refine J.callV (y := m_M_value) (av := []) (rest := []) (q := 191) l_M_255 d_M_one_174 (isC_st rfl rfl) (c_M_value w (d + 1) c  S135 h139) rfl (Nat.le_of_ble_eq_true rfl) ⟨Nat.le_refl _, Nat.le_refl _⟩ (show J w (d + 9) m_M_one (n0, z0, none, mk c z.2) 177 [some (.ref 191), some (.int (20002 : Int32))] [] (mk c S138) from ?_)
              refine J.run b_M_one_177_2 k_M_one_177_2 rfl (show J w (d + 9) m_M_one (n0, z0, none, mk c z.2) 179 [some (.ref 191), some (.int (20002 : Int32))] [.int (20002 : Int32), .ref 191] (mk c S138) from ?_)
              obtain ⟨r140, S141, h142, H⟩ := bd_e H
              refine J.callV (y := m_M_tells) (av := [.int (20002 : Int32)]) (rest := []) (q := 191) l_M_235 d_M_one_179 (isC_st rfl rfl) (c_M_tells w (d + 7) c  S138 (20002 : Int32) h142) rfl (Nat.le_of_ble_eq_true rfl) ⟨Nat.le_refl _, Nat.le_refl _⟩ (show J w (d + 9) m_M_one (n0, z0, none, mk c z.2) 182 [some (.ref 191), some (.int (20002 : Int32))] [] (mk c S141) from ?_)
              obtain rfl := some_e H
              exact J.vret d_M_one_182 rfl rfl
            · have H := ite_t H q133
              refine J.run b_M_one_156_2 k_M_one_156_2 rfl (show J w (d + 9) m_M_one (n0, z0, none, mk c z.2) 159 [some (.ref 191), some (.int (20002 : Int32))] [.int (62 : Int32), .ref 191, .ref 191] (mk c S131) from ?_)
              obtain ⟨r143, S144, h145, H⟩ := bd_e H
              refine J.callV (y := m_M_isSign) (av := [.int (62 : Int32)]) (rest := [.ref 191]) (q := 191) l_M_246 d_M_one_159 (isC_st rfl rfl) (c_M_isSign w (d + 7) c  S131 (62 : Int32) h145) rfl (Nat.le_of_ble_eq_true rfl) ⟨Nat.le_refl _, Nat.le_refl _⟩ (show J w (d + 9) m_M_one (n0, z0, none, mk c z.2) 162 [some (.ref 191), some (.int (20002 : Int32))] [.int r143, .ref 191] (mk c S144) from ?_)
              refine J.zeq (tgt := 169) d_M_one_162 rfl (fun q146 => ?_) (fun q146 => ?_)
              · have H := ite_t H q146
                refine J.run b_M_one_169_1 k_M_one_169_1 rfl (show J w (d + 9) m_M_one (n0, z0, none, mk c z.2) 170 [some (.ref 191), some (.int (20002 : Int32))] [.int (0 : Int32), .ref 191] (mk c S144) from ?_)
                obtain ⟨r147, S148, h149, H⟩ := bd_e H
                refine J.callV (y := m_M_must) (av := [.int (0 : Int32)]) (rest := []) (q := 191) l_M_231 d_M_one_170 (isC_st rfl rfl) (c_M_must w (d + 4) c  S144 (0 : Int32) h149) rfl (Nat.le_of_ble_eq_true rfl) ⟨Nat.le_refl _, Nat.le_refl _⟩ (show J w (d + 9) m_M_one (n0, z0, none, mk c z.2) 173 [some (.ref 191), some (.int (20002 : Int32))] [] (mk c S148) from ?_)
                refine J.run b_M_one_173_1 k_M_one_173_1 rfl (show J w (d + 9) m_M_one (n0, z0, none, mk c z.2) 174 [some (.ref 191), some (.int (20002 : Int32))] [.ref 191] (mk c S148) from ?_)
                obtain ⟨r150, S151, h152, H⟩ := bd_e H
                refine J.callV (y := m_M_value) (av := []) (rest := []) (q := 191) l_M_255 d_M_one_174 (isC_st rfl rfl) (c_M_value w (d + 1) c  S148 h152) rfl (Nat.le_of_ble_eq_true rfl) ⟨Nat.le_refl _, Nat.le_refl _⟩ (show J w (d + 9) m_M_one (n0, z0, none, mk c z.2) 177 [some (.ref 191), some (.int (20002 : Int32))] [] (mk c S151) from ?_)
                refine J.run b_M_one_177_2 k_M_one_177_2 rfl (show J w (d + 9) m_M_one (n0, z0, none, mk c z.2) 179 [some (.ref 191), some (.int (20002 : Int32))] [.int (20002 : Int32), .ref 191] (mk c S151) from ?_)
                obtain ⟨r153, S154, h155, H⟩ := bd_e H
                refine J.callV (y := m_M_tells) (av := [.int (20002 : Int32)]) (rest := []) (q := 191) l_M_235 d_M_one_179 (isC_st rfl rfl) (c_M_tells w (d + 7) c  S151 (20002 : Int32) h155) rfl (Nat.le_of_ble_eq_true rfl) ⟨Nat.le_refl _, Nat.le_refl _⟩ (show J w (d + 9) m_M_one (n0, z0, none, mk c z.2) 182 [some (.ref 191), some (.int (20002 : Int32))] [] (mk c S154) from ?_)
                obtain rfl := some_e H
                exact J.vret d_M_one_182 rfl rfl
              · have H := ite_f H q146
                refine J.run b_M_one_165_1 k_M_one_165_1 rfl (show J w (d + 9) m_M_one (n0, z0, none, mk c z.2) 166 [some (.ref 191), some (.int (20002 : Int32))] [.int (1 : Int32), .ref 191] (mk c S144) from ?_)
                refine J.goto (tgt := 170) d_M_one_166 rfl ?_
                obtain ⟨r156, S157, h158, H⟩ := bd_e H
                refine J.callV (y := m_M_must) (av := [.int (1 : Int32)]) (rest := []) (q := 191) l_M_231 d_M_one_170 (isC_st rfl rfl) (c_M_must w (d + 4) c  S144 (1 : Int32) h158) rfl (Nat.le_of_ble_eq_true rfl) ⟨Nat.le_refl _, Nat.le_refl _⟩ (show J w (d + 9) m_M_one (n0, z0, none, mk c z.2) 173 [some (.ref 191), some (.int (20002 : Int32))] [] (mk c S157) from ?_)
                refine J.run b_M_one_173_1 k_M_one_173_1 rfl (show J w (d + 9) m_M_one (n0, z0, none, mk c z.2) 174 [some (.ref 191), some (.int (20002 : Int32))] [.ref 191] (mk c S157) from ?_)
                obtain ⟨r159, S160, h161, H⟩ := bd_e H
                refine J.callV (y := m_M_value) (av := []) (rest := []) (q := 191) l_M_255 d_M_one_174 (isC_st rfl rfl) (c_M_value w (d + 1) c  S157 h161) rfl (Nat.le_of_ble_eq_true rfl) ⟨Nat.le_refl _, Nat.le_refl _⟩ (show J w (d + 9) m_M_one (n0, z0, none, mk c z.2) 177 [some (.ref 191), some (.int (20002 : Int32))] [] (mk c S160) from ?_)
                refine J.run b_M_one_177_2 k_M_one_177_2 rfl (show J w (d + 9) m_M_one (n0, z0, none, mk c z.2) 179 [some (.ref 191), some (.int (20002 : Int32))] [.int (20002 : Int32), .ref 191] (mk c S160) from ?_)
                obtain ⟨r162, S163, h164, H⟩ := bd_e H
                refine J.callV (y := m_M_tells) (av := [.int (20002 : Int32)]) (rest := []) (q := 191) l_M_235 d_M_one_179 (isC_st rfl rfl) (c_M_tells w (d + 7) c  S160 (20002 : Int32) h164) rfl (Nat.le_of_ble_eq_true rfl) ⟨Nat.le_refl _, Nat.le_refl _⟩ (show J w (d + 9) m_M_one (n0, z0, none, mk c z.2) 182 [some (.ref 191), some (.int (20002 : Int32))] [] (mk c S163) from ?_)
                obtain rfl := some_e H
                exact J.vret d_M_one_182 rfl rfl
      · have H := ite_f H q9
        refine J.run b_M_one_45_4 k_M_one_45_4 rfl (And.intro (okO_st (S := S7) rfl) (show J w (d + 9) m_M_one (n0, z0, none, mk c z.2) 51 [some (.ref 191), none] [.int (3 : Int32), .int (gI S7 191 10), .ref 191] (mk c S7) from ?_))
        refine J.cge (tgt := 58) d_M_one_51 rfl (fun q165 => ?_) (fun q165 => ?_)
        · have H := ite_t H q165
          refine J.run b_M_one_58_1 k_M_one_58_1 rfl (show J w (d + 9) m_M_one (n0, z0, none, mk c z.2) 59 [some (.ref 191), none] [.int (0 : Int32), .ref 191] (mk c S7) from ?_)
          obtain ⟨r166, S167, h168, H⟩ := bd_e H
          refine J.callV (y := m_M_must) (av := [.int (0 : Int32)]) (rest := []) (q := 191) l_M_231 d_M_one_59 (isC_st rfl rfl) (c_M_must w (d + 4) c  S7 (0 : Int32) h168) rfl (Nat.le_of_ble_eq_true rfl) ⟨Nat.le_refl _, Nat.le_refl _⟩ (show J w (d + 9) m_M_one (n0, z0, none, mk c z.2) 62 [some (.ref 191), none] [] (mk c S167) from ?_)
          refine J.run b_M_one_62_7 k_M_one_62_7 rfl (And.intro (okO_st (S := S167) rfl) (And.intro (okO_st (S := S167) rfl) (show J w (d + 9) m_M_one (n0, z0, none, mk c z.2) 73 [some (.ref 191), none] [.ref 191] (mk c (uI S167 191 10 ((gI S167 191 10) + (1 : Int32)))) from ?_)))
          obtain ⟨r169, S170, h171, H⟩ := bd_e H
          refine J.callV (y := m_M_condition) (av := []) (rest := []) (q := 191) l_M_252 d_M_one_73 (isC_st rfl rfl) (c_M_condition w (d + 0) c (fun D hD => oc_ok D (Nat.le_trans (Nat.le_add_right d 0) hD)) (uI S167 191 10 ((gI S167 191 10) + (1 : Int32))) h171) rfl (Nat.le_of_ble_eq_true rfl) ⟨Nat.le_refl _, Nat.le_refl _⟩ (show J w (d + 9) m_M_one (n0, z0, none, mk c z.2) 76 [some (.ref 191), none] [] (mk c S170) from ?_)
          refine J.run b_M_one_76_9 k_M_one_76_9 rfl (And.intro (okO_st (S := S170) rfl) (And.intro (okO_st (S := S170) rfl) (show J w (d + 9) m_M_one (n0, z0, none, mk c z.2) 90 [some (.ref 191), none] [.int (41 : Int32), .ref 191, .ref 191] (mk c (uI S170 191 10 ((gI S170 191 10) - (1 : Int32)))) from ?_)))
          obtain ⟨r172, S173, h174, H⟩ := bd_e H
          refine J.callV (y := m_M_isSign) (av := [.int (41 : Int32)]) (rest := [.ref 191]) (q := 191) l_M_246 d_M_one_90 (isC_st rfl rfl) (c_M_isSign w (d + 7) c  (uI S170 191 10 ((gI S170 191 10) - (1 : Int32))) (41 : Int32) h174) rfl (Nat.le_of_ble_eq_true rfl) ⟨Nat.le_refl _, Nat.le_refl _⟩ (show J w (d + 9) m_M_one (n0, z0, none, mk c z.2) 93 [some (.ref 191), none] [.int r172, .ref 191] (mk c S173) from ?_)
          obtain ⟨r175, S176, h177, H⟩ := bd_e H
          refine J.callV (y := m_M_must) (av := [.int r172]) (rest := []) (q := 191) l_M_231 d_M_one_93 (isC_st rfl rfl) (c_M_must w (d + 4) c  S173 r172 h177) rfl (Nat.le_of_ble_eq_true rfl) ⟨Nat.le_refl _, Nat.le_refl _⟩ (show J w (d + 9) m_M_one (n0, z0, none, mk c z.2) 96 [some (.ref 191), none] [] (mk c S176) from ?_)
          refine J.goto (tgt := 182) d_M_one_96 rfl ?_
          obtain rfl := some_e H
          exact J.vret d_M_one_182 rfl rfl
        · have H := ite_f H q165
          refine J.run b_M_one_54_1 k_M_one_54_1 rfl (show J w (d + 9) m_M_one (n0, z0, none, mk c z.2) 55 [some (.ref 191), none] [.int (1 : Int32), .ref 191] (mk c S7) from ?_)
          refine J.goto (tgt := 59) d_M_one_55 rfl ?_
          obtain ⟨r178, S179, h180, H⟩ := bd_e H
          refine J.callV (y := m_M_must) (av := [.int (1 : Int32)]) (rest := []) (q := 191) l_M_231 d_M_one_59 (isC_st rfl rfl) (c_M_must w (d + 4) c  S7 (1 : Int32) h180) rfl (Nat.le_of_ble_eq_true rfl) ⟨Nat.le_refl _, Nat.le_refl _⟩ (show J w (d + 9) m_M_one (n0, z0, none, mk c z.2) 62 [some (.ref 191), none] [] (mk c S179) from ?_)
          refine J.run b_M_one_62_7 k_M_one_62_7 rfl (And.intro (okO_st (S := S179) rfl) (And.intro (okO_st (S := S179) rfl) (show J w (d + 9) m_M_one (n0, z0, none, mk c z.2) 73 [some (.ref 191), none] [.ref 191] (mk c (uI S179 191 10 ((gI S179 191 10) + (1 : Int32)))) from ?_)))
          obtain ⟨r181, S182, h183, H⟩ := bd_e H
          refine J.callV (y := m_M_condition) (av := []) (rest := []) (q := 191) l_M_252 d_M_one_73 (isC_st rfl rfl) (c_M_condition w (d + 0) c (fun D hD => oc_ok D (Nat.le_trans (Nat.le_add_right d 0) hD)) (uI S179 191 10 ((gI S179 191 10) + (1 : Int32))) h183) rfl (Nat.le_of_ble_eq_true rfl) ⟨Nat.le_refl _, Nat.le_refl _⟩ (show J w (d + 9) m_M_one (n0, z0, none, mk c z.2) 76 [some (.ref 191), none] [] (mk c S182) from ?_)
          refine J.run b_M_one_76_9 k_M_one_76_9 rfl (And.intro (okO_st (S := S182) rfl) (And.intro (okO_st (S := S182) rfl) (show J w (d + 9) m_M_one (n0, z0, none, mk c z.2) 90 [some (.ref 191), none] [.int (41 : Int32), .ref 191, .ref 191] (mk c (uI S182 191 10 ((gI S182 191 10) - (1 : Int32)))) from ?_)))
          obtain ⟨r184, S185, h186, H⟩ := bd_e H
          refine J.callV (y := m_M_isSign) (av := [.int (41 : Int32)]) (rest := [.ref 191]) (q := 191) l_M_246 d_M_one_90 (isC_st rfl rfl) (c_M_isSign w (d + 7) c  (uI S182 191 10 ((gI S182 191 10) - (1 : Int32))) (41 : Int32) h186) rfl (Nat.le_of_ble_eq_true rfl) ⟨Nat.le_refl _, Nat.le_refl _⟩ (show J w (d + 9) m_M_one (n0, z0, none, mk c z.2) 93 [some (.ref 191), none] [.int r184, .ref 191] (mk c S185) from ?_)
          obtain ⟨r187, S188, h189, H⟩ := bd_e H
          refine J.callV (y := m_M_must) (av := [.int r184]) (rest := []) (q := 191) l_M_231 d_M_one_93 (isC_st rfl rfl) (c_M_must w (d + 4) c  S185 r184 h189) rfl (Nat.le_of_ble_eq_true rfl) ⟨Nat.le_refl _, Nat.le_refl _⟩ (show J w (d + 9) m_M_one (n0, z0, none, mk c z.2) 96 [some (.ref 191), none] [] (mk c S188) from ?_)
          refine J.goto (tgt := 182) d_M_one_96 rfl ?_
          obtain rfl := some_e H
          exact J.vret d_M_one_182 rfl rfl
    · have H := ite_f H q5
      refine J.run b_M_one_17_2 k_M_one_17_2 rfl (show J w (d + 9) m_M_one (n0, z0, none, mk c z.2) 19 [some (.ref 191), none] [.int (1 : Int32), .ref 191] (mk c S3) from ?_)
      obtain ⟨r190, S191, h192, H⟩ := bd_e H
      refine J.callV (y := m_M_must) (av := [.int (1 : Int32)]) (rest := []) (q := 191) l_M_231 d_M_one_19 (isC_st rfl rfl) (c_M_must w (d + 4) c  S3 (1 : Int32) h192) rfl (Nat.le_of_ble_eq_true rfl) ⟨Nat.le_refl _, Nat.le_refl _⟩ (show J w (d + 9) m_M_one (n0, z0, none, mk c z.2) 22 [some (.ref 191), none] [] (mk c S191) from ?_)
      refine J.run b_M_one_22_1 k_M_one_22_1 rfl (show J w (d + 9) m_M_one (n0, z0, none, mk c z.2) 23 [some (.ref 191), none] [.ref 191] (mk c S191) from ?_)
      obtain ⟨r193, S194, h195, H⟩ := bd_e H
      refine J.callV (y := m_M_one) (av := []) (rest := []) (q := 191) l_M_239 d_M_one_23 (isC_st rfl rfl) (oc_ok (d + 8) (Nat.le_add_right _ _) S191 _ h195) rfl (Nat.le_of_ble_eq_true rfl) ⟨Nat.le_refl _, Nat.le_refl _⟩ (show J w (d + 9) m_M_one (n0, z0, none, mk c z.2) 26 [some (.ref 191), none] [] (mk c S194) from ?_)
      refine J.run b_M_one_26_2 k_M_one_26_2 rfl (show J w (d + 9) m_M_one (n0, z0, none, mk c z.2) 30 [some (.ref 191), none] [.int (20005 : Int32), .ref 191] (mk c S194) from ?_)
      obtain ⟨r196, S197, h198, H⟩ := bd_e H
      refine J.callV (y := m_M_tells) (av := [.int (20005 : Int32)]) (rest := []) (q := 191) l_M_235 d_M_one_30 (isC_st rfl rfl) (c_M_tells w (d + 7) c  S194 (20005 : Int32) h198) rfl (Nat.le_of_ble_eq_true rfl) ⟨Nat.le_refl _, Nat.le_refl _⟩ (show J w (d + 9) m_M_one (n0, z0, none, mk c z.2) 33 [some (.ref 191), none] [] (mk c S197) from ?_)
      refine J.goto (tgt := 182) d_M_one_33 rfl ?_
      obtain rfl := some_e H
      exact J.vret d_M_one_182 rfl rfl
  · have H := ite_f H q1
    obtain rfl := some_e H
    exact J.vret d_M_one_7 rfl rfl
