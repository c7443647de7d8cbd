/-! Model: acts -/
def b_M_hasOwn_0_1 : List Ins := [(.iload_n 0, 0, 0, 0)]
theorem k_M_hasOwn_0_1 : bok m_M_hasOwn 0 b_M_hasOwn_0_1 = true := by decide +kernel
def b_M_hasOwn_36_1 : List Ins := [(.iconst (1), 0, 0, 0)]
theorem k_M_hasOwn_36_1 : bok m_M_hasOwn 36 b_M_hasOwn_36_1 = true := by decide +kernel
def b_M_hasOwn_38_1 : List Ins := [(.iload_n 1, 0, 0, 0)]
theorem k_M_hasOwn_38_1 : bok m_M_hasOwn 38 b_M_hasOwn_38_1 = true := by decide +kernel
def b_M_hasOwn_46_1 : List Ins := [(.iconst (0), 0, 0, 0)]
theorem k_M_hasOwn_46_1 : bok m_M_hasOwn 46 b_M_hasOwn_46_1 = true := by decide +kernel
def b_M_hasOwn_42_1 : List Ins := [(.iconst (1), 0, 0, 0)]
theorem k_M_hasOwn_42_1 : bok m_M_hasOwn 42 b_M_hasOwn_42_1 = true := by decide +kernel
def b_M_hasOwn_48_2 : List Ins := [(.iload_n 1, 0, 0, 0), (.iconst (1), 0, 0, 0)]
theorem k_M_hasOwn_48_2 : bok m_M_hasOwn 48 b_M_hasOwn_48_2 = true := by decide +kernel
def b_M_hasOwn_57_1 : List Ins := [(.iconst (0), 0, 0, 0)]
theorem k_M_hasOwn_57_1 : bok m_M_hasOwn 57 b_M_hasOwn_57_1 = true := by decide +kernel
def b_M_hasOwn_53_1 : List Ins := [(.iconst (1), 0, 0, 0)]
theorem k_M_hasOwn_53_1 : bok m_M_hasOwn 53 b_M_hasOwn_53_1 = true := by decide +kernel
def b_M_hasOwn_59_1 : List Ins := [(.iload_n 1, 0, 0, 0)]
theorem k_M_hasOwn_59_1 : bok m_M_hasOwn 59 b_M_hasOwn_59_1 = true := by decide +kernel
def b_M_hasOwn_68_1 : List Ins := [(.iconst (1), 0, 0, 0)]
theorem k_M_hasOwn_68_1 : bok m_M_hasOwn 68 b_M_hasOwn_68_1 = true := by decide +kernel
def b_M_hasOwn_63_2 : List Ins := [(.iload_n 1, 0, 0, 0), (.iconst (3), 0, 0, 0)]
theorem k_M_hasOwn_63_2 : bok m_M_hasOwn 63 b_M_hasOwn_63_2 = true := by decide +kernel
def b_M_hasOwn_72_1 : List Ins := [(.iconst (0), 0, 0, 0)]
theorem k_M_hasOwn_72_1 : bok m_M_hasOwn 72 b_M_hasOwn_72_1 = true := by decide +kernel
def b_M_hasOwn_74_2 : List Ins := [(.iload_n 1, 0, 0, 0), (.iconst (2), 0, 0, 0)]
theorem k_M_hasOwn_74_2 : bok m_M_hasOwn 74 b_M_hasOwn_74_2 = true := by decide +kernel
def b_M_hasOwn_83_1 : List Ins := [(.iconst (0), 0, 0, 0)]
theorem k_M_hasOwn_83_1 : bok m_M_hasOwn 83 b_M_hasOwn_83_1 = true := by decide +kernel
def b_M_hasOwn_79_1 : List Ins := [(.iconst (1), 0, 0, 0)]
theorem k_M_hasOwn_79_1 : bok m_M_hasOwn 79 b_M_hasOwn_79_1 = true := by decide +kernel
def b_M_hasOwn_85_2 : List Ins := [(.iload_n 1, 0, 0, 0), (.iconst (1), 0, 0, 0)]
theorem k_M_hasOwn_85_2 : bok m_M_hasOwn 85 b_M_hasOwn_85_2 = true := by decide +kernel
def b_M_hasOwn_95_1 : List Ins := [(.iconst (1), 0, 0, 0)]
theorem k_M_hasOwn_95_1 : bok m_M_hasOwn 95 b_M_hasOwn_95_1 = true := by decide +kernel
def b_M_hasOwn_90_2 : List Ins := [(.iload_n 1, 0, 0, 0), (.iconst (2), 0, 0, 0)]
theorem k_M_hasOwn_90_2 : bok m_M_hasOwn 90 b_M_hasOwn_90_2 = true := by decide +kernel
def b_M_hasOwn_99_1 : List Ins := [(.iconst (0), 0, 0, 0)]
theorem k_M_hasOwn_99_1 : bok m_M_hasOwn 99 b_M_hasOwn_99_1 = true := by decide +kernel
theorem d_M_hasOwn_1 : decode m_M_hasOwn.2.1 1 = .ok (.tableswitch (84) (0) (4) #[35, 37, 47, 58, 73], 35) := by decide +kernel
theorem d_M_hasOwn_37 : decode m_M_hasOwn.2.1 37 = .ok (.ireturn, 1) := by decide +kernel
theorem d_M_hasOwn_39 : decode m_M_hasOwn.2.1 39 = .ok (.ifCond .ne (7), 3) := by decide +kernel
theorem d_M_hasOwn_47 : decode m_M_hasOwn.2.1 47 = .ok (.ireturn, 1) := by decide +kernel
theorem d_M_hasOwn_43 : decode m_M_hasOwn.2.1 43 = .ok (.goto (4), 3) := by decide +kernel
theorem d_M_hasOwn_50 : decode m_M_hasOwn.2.1 50 = .ok (.if_icmp .ne (7), 3) := by decide +kernel
theorem d_M_hasOwn_58 : decode m_M_hasOwn.2.1 58 = .ok (.ireturn, 1) := by decide +kernel
theorem d_M_hasOwn_54 : decode m_M_hasOwn.2.1 54 = .ok (.goto (4), 3) := by decide +kernel
theorem d_M_hasOwn_60 : decode m_M_hasOwn.2.1 60 = .ok (.ifCond .eq (8), 3) := by decide +kernel
theorem d_M_hasOwn_69 : decode m_M_hasOwn.2.1 69 = .ok (.goto (4), 3) := by decide +kernel
theorem d_M_hasOwn_73 : decode m_M_hasOwn.2.1 73 = .ok (.ireturn, 1) := by decide +kernel
theorem d_M_hasOwn_65 : decode m_M_hasOwn.2.1 65 = .ok (.if_icmp .ne (7), 3) := by decide +kernel
theorem d_M_hasOwn_76 : decode m_M_hasOwn.2.1 76 = .ok (.if_icmp .ne (7), 3) := by decide +kernel
theorem d_M_hasOwn_84 : decode m_M_hasOwn.2.1 84 = .ok (.ireturn, 1) := by decide +kernel
theorem d_M_hasOwn_80 : decode m_M_hasOwn.2.1 80 = .ok (.goto (4), 3) := by decide +kernel
theorem d_M_hasOwn_87 : decode m_M_hasOwn.2.1 87 = .ok (.if_icmp .eq (8), 3) := by decide +kernel
theorem d_M_hasOwn_96 : decode m_M_hasOwn.2.1 96 = .ok (.goto (4), 3) := by decide +kernel
theorem d_M_hasOwn_100 : decode m_M_hasOwn.2.1 100 = .ok (.ireturn, 1) := by decide +kernel
theorem d_M_hasOwn_92 : decode m_M_hasOwn.2.1 92 = .ok (.if_icmp .ne (7), 3) := by decide +kernel
def f_M_hasOwn  (S : hs) (x0 : Int32) (x1 : Int32) : Option (Int32 × hs) := (if x0 = (0 : Int32) then some ((1 : Int32), S) else (if x0 = (1 : Int32) then (if x1 = 0 then some ((1 : Int32), S) else some ((0 : Int32), S)) else (if x0 = (2 : Int32) then (if x1 = (1 : Int32) then some ((1 : Int32), S) else some ((0 : Int32), S)) else (if x0 = (3 : Int32) then (if x1 = 0 then some ((1 : Int32), S) else (if x1 = (3 : Int32) then some ((1 : Int32), S) else some ((0 : Int32), S))) else (if x0 = (4 : Int32) then (if x1 = (2 : Int32) then some ((1 : Int32), S) else some ((0 : Int32), S)) else (if x1 = (1 : Int32) then some ((1 : Int32), S) else (if x1 = (2 : Int32) then some ((1 : Int32), S) else some ((0 : Int32), S))))))))
theorem c_M_hasOwn (w : Wd) (d : Nat) (c : cx)   (S : hs) (x0 : Int32) (x1 : Int32)  {z : Int32 × hs} (H : f_M_hasOwn S x0 x1 = some z) : Cl w (d + 1) m_M_hasOwn [.int x0, .int x1] (mk c S) (some (.int z.1)) (mk c z.2) := by
  refine Cl.of (Nat.le_refl _) (Nat.le_refl _) (by decide +kernel) (Nat.le_of_ble_eq_true rfl) ?_
  unfold f_M_hasOwn at H
  generalize hN (mk c S) = n0
  generalize hZ (mk c S) = z0
  show J w (d + 1) m_M_hasOwn (n0, z0, some (.int z.1), mk c z.2) 0 [some (.int x0), some (.int x1)] [] (mk c S)
  refine J.run b_M_hasOwn_0_1 k_M_hasOwn_0_1 rfl (show J w (d + 1) m_M_hasOwn (n0, z0, some (.int z.1), mk c z.2) 1 [some (.int x0), some (.int x1)] [.int x0] (mk c S) from ?_)
  by_cases q1 : x0 = (0 : Int32)
  · have H := ite_t H q1
    refine J.tsIn (off := 35) (tgt := 36) d_M_hasOwn_1 (by rw [q1]; decide) (by rw [q1]; decide) (by rw [q1]; rfl) rfl ?_
    refine J.run b_M_hasOwn_36_1 k_M_hasOwn_36_1 rfl (show J w (d + 1) m_M_hasOwn (n0, z0, some (.int z.1), mk c z.2) 37 [some (.int x0), some (.int x1)] [.int (1 : Int32)] (mk c S) from ?_)
    obtain rfl := some_e H
    exact J.nret d_M_hasOwn_37 rfl rfl rfl
  · have H := ite_f H q1
    by_cases q2 : x0 = (1 : Int32)
    · have H := ite_t H q2
      refine J.tsIn (off := 37) (tgt := 38) d_M_hasOwn_1 (by rw [q2]; decide) (by rw [q2]; decide) (by rw [q2]; rfl) rfl ?_
      refine J.run b_M_hasOwn_38_1 k_M_hasOwn_38_1 rfl (show J w (d + 1) m_M_hasOwn (n0, z0, some (.int z.1), mk c z.2) 39 [some (.int x0), some (.int x1)] [.int x1] (mk c S) from ?_)
      refine J.zne (tgt := 46) d_M_hasOwn_39 rfl (fun q3 => ?_) (fun q3 => ?_)
      · have H := ite_f H q3
        refine J.run b_M_hasOwn_46_1 k_M_hasOwn_46_1 rfl (show J w (d + 1) m_M_hasOwn (n0, z0, some (.int z.1), mk c z.2) 47 [some (.int x0), some (.int x1)] [.int (0 : Int32)] (mk c S) from ?_)
        obtain rfl := some_e H
        exact J.nret d_M_hasOwn_47 rfl rfl rfl
      · have H := ite_t H q3
        refine J.run b_M_hasOwn_42_1 k_M_hasOwn_42_1 rfl (show J w (d + 1) m_M_hasOwn (n0, z0, some (.int z.1), mk c z.2) 43 [some (.int x0), some (.int x1)] [.int (1 : Int32)] (mk c S) from ?_)
        refine J.goto (tgt := 47) d_M_hasOwn_43 rfl ?_
        obtain rfl := some_e H
        exact J.nret d_M_hasOwn_47 rfl rfl rfl
    · have H := ite_f H q2
      by_cases q4 : x0 = (2 : Int32)
      · have H := ite_t H q4
        refine J.tsIn (off := 47) (tgt := 48) d_M_hasOwn_1 (by rw [q4]; decide) (by rw [q4]; decide) (by rw [q4]; rfl) rfl ?_
        refine J.run b_M_hasOwn_48_2 k_M_hasOwn_48_2 rfl (show J w (d + 1) m_M_hasOwn (n0, z0, some (.int z.1), mk c z.2) 50 [some (.int x0), some (.int x1)] [.int (1 : Int32), .int x1] (mk c S) from ?_)
        refine J.cne (tgt := 57) d_M_hasOwn_50 rfl (fun q5 => ?_) (fun q5 => ?_)
        · have H := ite_f H q5
          refine J.run b_M_hasOwn_57_1 k_M_hasOwn_57_1 rfl (show J w (d + 1) m_M_hasOwn (n0, z0, some (.int z.1), mk c z.2) 58 [some (.int x0), some (.int x1)] [.int (0 : Int32)] (mk c S) from ?_)
          obtain rfl := some_e H
          exact J.nret d_M_hasOwn_58 rfl rfl rfl
        · have H := ite_t H q5
          refine J.run b_M_hasOwn_53_1 k_M_hasOwn_53_1 rfl (show J w (d + 1) m_M_hasOwn (n0, z0, some (.int z.1), mk c z.2) 54 [some (.int x0), some (.int x1)] [.int (1 : Int32)] (mk c S) from ?_)
          refine J.goto (tgt := 58) d_M_hasOwn_54 rfl ?_
          obtain rfl := some_e H
          exact J.nret d_M_hasOwn_58 rfl rfl rfl
      · have H := ite_f H q4
        by_cases q6 : x0 = (3 : Int32)
        · have H := ite_t H q6
          refine J.tsIn (off := 58) (tgt := 59) d_M_hasOwn_1 (by rw [q6]; decide) (by rw [q6]; decide) (by rw [q6]; rfl) rfl ?_
          refine J.run b_M_hasOwn_59_1 k_M_hasOwn_59_1 rfl (show J w (d + 1) m_M_hasOwn (n0, z0, some (.int z.1), mk c z.2) 60 [some (.int x0), some (.int x1)] [.int x1] (mk c S) from ?_)
          refine J.zeq (tgt := 68) d_M_hasOwn_60 rfl (fun q7 => ?_) (fun q7 => ?_)
          · have H := ite_t H q7
            refine J.run b_M_hasOwn_68_1 k_M_hasOwn_68_1 rfl (show J w (d + 1) m_M_hasOwn (n0, z0, some (.int z.1), mk c z.2) 69 [some (.int x0), some (.int x1)] [.int (1 : Int32)] (mk c S) from ?_)
            refine J.goto (tgt := 73) d_M_hasOwn_69 rfl ?_
            obtain rfl := some_e H
            exact J.nret d_M_hasOwn_73 rfl rfl rfl
          · have H := ite_f H q7
            refine J.run b_M_hasOwn_63_2 k_M_hasOwn_63_2 rfl (show J w (d + 1) m_M_hasOwn (n0, z0, some (.int z.1), mk c z.2) 65 [some (.int x0), some (.int x1)] [.int (3 : Int32), .int x1] (mk c S) from ?_)
            refine J.cne (tgt := 72) d_M_hasOwn_65 rfl (fun q8 => ?_) (fun q8 => ?_)
            · have H := ite_f H q8
              refine J.run b_M_hasOwn_72_1 k_M_hasOwn_72_1 rfl (show J w (d + 1) m_M_hasOwn (n0, z0, some (.int z.1), mk c z.2) 73 [some (.int x0), some (.int x1)] [.int (0 : Int32)] (mk c S) from ?_)
              obtain rfl := some_e H
              exact J.nret d_M_hasOwn_73 rfl rfl rfl
            · have H := ite_t H q8
              refine J.run b_M_hasOwn_68_1 k_M_hasOwn_68_1 rfl (show J w (d + 1) m_M_hasOwn (n0, z0, some (.int z.1), mk c z.2) 69 [some (.int x0), some (.int x1)] [.int (1 : Int32)] (mk c S) from ?_)
              refine J.goto (tgt := 73) d_M_hasOwn_69 rfl ?_
              obtain rfl := some_e H
              exact J.nret d_M_hasOwn_73 rfl rfl rfl
        · have H := ite_f H q6
          by_cases q9 : x0 = (4 : Int32)
          · have H := ite_t H q9
            refine J.tsIn (off := 73) (tgt := 74) d_M_hasOwn_1 (by rw [q9]; decide) (by rw [q9]; decide) (by rw [q9]; rfl) rfl ?_
            refine J.run b_M_hasOwn_74_2 k_M_hasOwn_74_2 rfl (show J w (d + 1) m_M_hasOwn (n0, z0, some (.int z.1), mk c z.2) 76 [some (.int x0), some (.int x1)] [.int (2 : Int32), .int x1] (mk c S) from ?_)
            refine J.cne (tgt := 83) d_M_hasOwn_76 rfl (fun q10 => ?_) (fun q10 => ?_)
            · have H := ite_f H q10
              refine J.run b_M_hasOwn_83_1 k_M_hasOwn_83_1 rfl (show J w (d + 1) m_M_hasOwn (n0, z0, some (.int z.1), mk c z.2) 84 [some (.int x0), some (.int x1)] [.int (0 : Int32)] (mk c S) from ?_)
              obtain rfl := some_e H
              exact J.nret d_M_hasOwn_84 rfl rfl rfl
            · have H := ite_t H q10
              refine J.run b_M_hasOwn_79_1 k_M_hasOwn_79_1 rfl (show J w (d + 1) m_M_hasOwn (n0, z0, some (.int z.1), mk c z.2) 80 [some (.int x0), some (.int x1)] [.int (1 : Int32)] (mk c S) from ?_)
              refine J.goto (tgt := 84) d_M_hasOwn_80 rfl ?_
              obtain rfl := some_e H
              exact J.nret d_M_hasOwn_84 rfl rfl rfl
          · have H := ite_f H q9
            refine J.tsOut (tgt := 85) d_M_hasOwn_1 (tsO fun k h1 h2 => ?_) rfl ?_
            · rcases (show k = 0 ∨ k = 1 ∨ k = 2 ∨ k = 3 ∨ k = 4 by omega) with rfl | rfl | rfl | rfl | rfl
              · exact lv_neT q1 rfl
              · exact lv_neT q2 rfl
              · exact lv_neT q4 rfl
              · exact lv_neT q6 rfl
              · exact lv_neT q9 rfl
            · refine J.run b_M_hasOwn_85_2 k_M_hasOwn_85_2 rfl (show J w (d + 1) m_M_hasOwn (n0, z0, some (.int z.1), mk c z.2) 87 [some (.int x0), some (.int x1)] [.int (1 : Int32), .int x1] (mk c S) from ?_)
              refine J.ceq (tgt := 95) d_M_hasOwn_87 rfl (fun q11 => ?_) (fun q11 => ?_)
              · have H := ite_t H q11
                refine J.run b_M_hasOwn_95_1 k_M_hasOwn_95_1 rfl (show J w (d + 1) m_M_hasOwn (n0, z0, some (.int z.1), mk c z.2) 96 [some (.int x0), some (.int x1)] [.int (1 : Int32)] (mk c S) from ?_)
                refine J.goto (tgt := 100) d_M_hasOwn_96 rfl ?_
                obtain rfl := some_e H
                exact J.nret d_M_hasOwn_100 rfl rfl rfl
              · have H := ite_f H q11
                refine J.run b_M_hasOwn_90_2 k_M_hasOwn_90_2 rfl (show J w (d + 1) m_M_hasOwn (n0, z0, some (.int z.1), mk c z.2) 92 [some (.int x0), some (.int x1)] [.int (2 : Int32), .int x1] (mk c S) from ?_)
                refine J.cne (tgt := 99) d_M_hasOwn_92 rfl (fun q12 => ?_) (fun q12 => ?_)
                · have H := ite_f H q12
                  refine J.run b_M_hasOwn_99_1 k_M_hasOwn_99_1 rfl (show J w (d + 1) m_M_hasOwn (n0, z0, some (.int z.1), mk c z.2) 100 [some (.int x0), some (.int x1)] [.int (0 : Int32)] (mk c S) from ?_)
                  obtain rfl := some_e H
                  exact J.nret d_M_hasOwn_100 rfl rfl rfl
                · have H := ite_t H q12
                  refine J.run b_M_hasOwn_95_1 k_M_hasOwn_95_1 rfl (show J w (d + 1) m_M_hasOwn (n0, z0, some (.int z.1), mk c z.2) 96 [some (.int x0), some (.int x1)] [.int (1 : Int32)] (mk c S) from ?_)
                  refine J.goto (tgt := 100) d_M_hasOwn_96 rfl ?_
                  obtain rfl := some_e H
                  exact J.nret d_M_hasOwn_100 rfl rfl rfl
def b_M_began_0_3 : List Ins := [(.aload_n 0, 0, 0, 0), (.getfield 333, 11, 31, 0), (.bipush (30), 0, 0, 0)]
theorem k_M_began_0_3 : bok m_M_began 0 b_M_began_0_3 = true := by decide +kernel
def b_M_began_9_12 : List Ins := [(.aload_n 0, 0, 0, 0), (.getfield 102, 11, 30, 2), (.aload_n 0, 0, 0, 0), (.getfield 333, 11, 31, 0), (.iload_n 1, 0, 0, 0), (.iastore, 0, 0, 0), (.aload_n 0, 0, 0, 0), (.dup, 0, 0, 0), (.getfield 333, 11, 31, 0), (.iconst (1), 0, 0, 0), (.iadd, 0, 0, 0), (.putfield 333, 11, 31, 0)]
theorem k_M_began_9_12 : bok m_M_began 9 b_M_began_9_12 = true := by decide +kernel
theorem d_M_began_6 : decode m_M_began.2.1 6 = .ok (.if_icmp .ge (23), 3) := by decide +kernel
theorem d_M_began_29 : decode m_M_began.2.1 29 = .ok (.return_, 1) := by decide +kernel
def f_M_began  (S : hs) (x1 : Int32) : Option (Int32 × hs) := (if (30 : Int32) ≤ (gI S 191 31) then some ((0 : Int32), S) else ck (inb (gI S 191 31) 30) (some ((0 : Int32), (uI (uI S 212 ((gI S 191 31)).toNatClampNeg x1) 191 31 ((gI (uI S 212 ((gI S 191 31)).toNatClampNeg x1) 191 31) + (1 : Int32))))))
theorem c_M_began (w : Wd) (d : Nat) (c : cx)   (S : hs) (x1 : Int32)  {z : Int32 × hs} (H : f_M_began S x1 = some z) : Cl w (d + 1) m_M_began [.ref 191, .int x1] (mk c S) (none) (mk c z.2) := by
  refine Cl.of (Nat.le_refl _) (Nat.le_refl _) (by decide +kernel) (Nat.le_of_ble_eq_true rfl) ?_
  unfold f_M_began at H
  generalize hN (mk c S) = n0
  generalize hZ (mk c S) = z0
  show J w (d + 1) m_M_began (n0, z0, none, mk c z.2) 0 [some (.ref 191), some (.int x1)] [] (mk c S)
  refine J.run b_M_began_0_3 k_M_began_0_3 rfl (And.intro (okO_st (S := S) rfl) (show J w (d + 1) m_M_began (n0, z0, none, mk c z.2) 6 [some (.ref 191), some (.int x1)] [.int (30 : Int32), .int (gI S 191 31)] (mk c S) from ?_))
  refine J.cge (tgt := 29) d_M_began_6 rfl (fun q1 => ?_) (fun q1 => ?_)
  · have H := ite_t H q1
    obtain rfl := some_e H
    exact J.vret d_M_began_29 rfl rfl
  · have H := ite_f H q1
    obtain ⟨g2, H⟩ := ck_e H
    refine J.run b_M_began_9_12 k_M_began_9_12 rfl (And.intro (okO_st (S := S) rfl) (And.intro (okO_st (S := S) rfl) (And.intro (okB_st (S := S) (n := 30) rfl g2) (And.intro (okO_st (S := (uI S 212 ((gI S 191 31)).toNatClampNeg x1)) rfl) (And.intro (okO_st (S := (uI S 212 ((gI S 191 31)).toNatClampNeg x1)) rfl) (show J w (d + 1) m_M_began (n0, z0, none, mk c z.2) 29 [some (.ref 191), some (.int x1)] [] (mk c (uI (uI S 212 ((gI S 191 31)).toNatClampNeg x1) 191 31 ((gI (uI S 212 ((gI S 191 31)).toNatClampNeg x1) 191 31) + (1 : Int32)))) from ?_))))))
    obtain rfl := some_e H
    exact J.vret d_M_began_29 rfl rfl
def b_M_voiced_0_6 : List Ins := [(.aload_n 0, 0, 0, 0), (.aload_n 0, 0, 0, 0), (.aload_n 0, 0, 0, 0), (.getfield 336, 11, 32, 0), (.aload_n 0, 0, 0, 0), (.getfield 339, 11, 33, 0)]
theorem k_M_voiced_0_6 : bok m_M_voiced 0 b_M_voiced_0_6 = true := by decide +kernel
def b_M_voiced_13_2 : List Ins := [(.iload_n 1, 0, 0, 0), (.iload_n 2, 0, 0, 0)]
theorem k_M_voiced_13_2 : bok m_M_voiced 13 b_M_voiced_13_2 = true := by decide +kernel
theorem d_M_voiced_10 : decode m_M_voiced.2.1 10 = .ok (.invokevirtual 154, 3) := by decide +kernel
theorem d_M_voiced_15 : decode m_M_voiced.2.1 15 = .ok (.invokevirtual 342, 3) := by decide +kernel
theorem d_M_voiced_18 : decode m_M_voiced.2.1 18 = .ok (.ireturn, 1) := by decide +kernel
def f_M_voiced (bf : hs → Int32 → Int32 → Int32 → Option (Int32 × hs)) (S : hs) (x1 : Int32) (x2 : Int32) : Option (Int32 × hs) := bd (f_M_kindOf  S (gI S 191 32) (gI S 191 33)) fun r1 S2 => bd (bf S2 r1 x1 x2) fun r4 S5 => some (r4, S5)
theorem c_M_voiced (w : Wd) (d : Nat) (c : cx) {bf : hs → Int32 → Int32 → Int32 → Option (Int32 × hs)} (bf_ok : ∀ (D : Nat), d ≤ D → ∀ (S : hs) (x1 : Int32) (x2 : Int32) (x3 : Int32) (z : Int32 × hs), bf S x1 x2 x3 = some z → Cl w D m_M_bodyFrom [.ref 191, .int x1, .int x2, .int x3] (mk c S) (some (.int z.1)) (mk c z.2)) (S : hs) (x1 : Int32) (x2 : Int32)  {z : Int32 × hs} (H : f_M_voiced bf S x1 x2 = some z) : Cl w (d + 4) m_M_voiced [.ref 191, .int x1, .int x2] (mk c S) (some (.int z.1)) (mk c z.2) := by
  refine Cl.of (Nat.le_refl _) (Nat.le_refl _) (by decide +kernel) (Nat.le_of_ble_eq_true rfl) ?_
  unfold f_M_voiced at H
  generalize hN (mk c S) = n0
  generalize hZ (mk c S) = z0
  show J w (d + 4) m_M_voiced (n0, z0, some (.int z.1), mk c z.2) 0 [some (.ref 191), some (.int x1), some (.int x2)] [] (mk c S)
  refine J.run b_M_voiced_0_6 k_M_voiced_0_6 rfl (And.intro (okO_st (S := S) rfl) (And.intro (okO_st (S := S) rfl) (show J w (d + 4) m_M_voiced (n0, z0, some (.int z.1), mk c z.2) 10 [some (.ref 191), some (.int x1), some (.int x2)] [.int (gI S 191 33), .int (gI S 191 32), .ref 191, .ref 191] (mk c S) from ?_)))
  obtain ⟨r1, S2, h3, H⟩ := bd_e H
  refine J.callV (y := m_M_kindOf) (av := [.int (gI S 191 32), .int (gI S 191 33)]) (rest := [.ref 191]) (q := 191) l_M_154 d_M_voiced_10 (isC_st rfl rfl) (c_M_kindOf w (d + 0) c  S (gI S 191 32) (gI S 191 33) h3) rfl (Nat.le_of_ble_eq_true rfl) ⟨Nat.le_refl _, Nat.le_refl _⟩ (show J w (d + 4) m_M_voiced (n0, z0, some (.int z.1), mk c z.2) 13 [some (.ref 191), some (.int x1), some (.int x2)] [.int r1, .ref 191] (mk c S2) from ?_)
  refine J.run b_M_voiced_13_2 k_M_voiced_13_2 rfl (show J w (d + 4) m_M_voiced (n0, z0, some (.int z.1), mk c z.2) 15 [some (.ref 191), some (.int x1), some (.int x2)] [.int x2, .int x1, .int r1, .ref 191] (mk c S2) from ?_)
  obtain ⟨r4, S5, h6, H⟩ := bd_e H
  refine J.callV (y := m_M_bodyFrom) (av := [.int r1, .int x1, .int x2]) (rest := []) (q := 191) l_M_342 d_M_voiced_15 (isC_st rfl rfl) (bf_ok (d + 3) (Nat.le_add_right _ _) S2 r1 x1 x2 _ h6) rfl (Nat.le_of_ble_eq_true rfl) ⟨Nat.le_refl _, Nat.le_refl _⟩ (show J w (d + 4) m_M_voiced (n0, z0, some (.int z.1), mk c z.2) 18 [some (.ref 191), some (.int x1), some (.int x2)] [.int r4] (mk c S5) from ?_)
  obtain rfl := some_e H
  exact J.iret d_M_voiced_18 rfl rfl
def b_M_body_0_11 : List Ins := [(.aload_n 0, 0, 0, 0), (.getfield 336, 11, 32, 0), (.istore 4, 0, 0, 0), (.aload_n 0, 0, 0, 0), (.getfield 339, 11, 33, 0), (.istore 5, 0, 0, 0), (.iconst (4), 0, 0, 0), (.iload_n 1, 0, 0, 0), (.imul, 0, 0, 0), (.iload_n 2, 0, 0, 0), (.iadd, 0, 0, 0)]
theorem k_M_body_0_11 : bok m_M_body 0 b_M_body_0_11 = true := by decide +kernel
def b_M_body_120_2 : List Ins := [(.aload_n 0, 0, 0, 0), (.bipush (10), 0, 0, 0)]
theorem k_M_body_120_2 : bok m_M_body 120 b_M_body_120_2 = true := by decide +kernel
def b_M_body_126_3 : List Ins := [(.iload_n 3, 0, 0, 0), (.iload 5, 0, 0, 0), (.iadd, 0, 0, 0)]
theorem k_M_body_126_3 : bok m_M_body 126 b_M_body_126_3 = true := by decide +kernel
def b_M_body_131_2 : List Ins := [(.aload_n 0, 0, 0, 0), (.bipush (11), 0, 0, 0)]
theorem k_M_body_131_2 : bok m_M_body 131 b_M_body_131_2 = true := by decide +kernel
def b_M_body_137_3 : List Ins := [(.aload_n 0, 0, 0, 0), (.iconst (0), 0, 0, 0), (.iload_n 3, 0, 0, 0)]
theorem k_M_body_137_3 : bok m_M_body 137 b_M_body_137_3 = true := by decide +kernel
def b_M_body_143_2 : List Ins := [(.iconst (2), 0, 0, 0), (.imul, 0, 0, 0)]
theorem k_M_body_143_2 : bok m_M_body 143 b_M_body_143_2 = true := by decide +kernel
def b_M_body_146_2 : List Ins := [(.aload_n 0, 0, 0, 0), (.bipush (12), 0, 0, 0)]
theorem k_M_body_146_2 : bok m_M_body 146 b_M_body_146_2 = true := by decide +kernel
def b_M_body_152_3 : List Ins := [(.aload_n 0, 0, 0, 0), (.iload 5, 0, 0, 0), (.iload 4, 0, 0, 0)]
theorem k_M_body_152_3 : bok m_M_body 152 b_M_body_152_3 = true := by decide +kernel
def b_M_body_164_4 : List Ins := [(.iconst (0), 0, 0, 0), (.putfield 349, 11, 34, 3), (.aload_n 0, 0, 0, 0), (.getfield 349, 11, 34, 0)]
theorem k_M_body_164_4 : bok m_M_body 164 b_M_body_164_4 = true := by decide +kernel
def b_M_body_179_5 : List Ins := [(.iload_n 3, 0, 0, 0), (.iload 5, 0, 0, 0), (.iload 4, 0, 0, 0), (.isub, 0, 0, 0), (.idiv, 0, 0, 0)]
theorem k_M_body_179_5 : bok m_M_body 179 b_M_body_179_5 = true := by decide +kernel
def b_M_body_175_1 : List Ins := [(.iconst (0), 0, 0, 0)]
theorem k_M_body_175_1 : bok m_M_body 175 b_M_body_175_1 = true := by decide +kernel
def b_M_body_160_1 : List Ins := [(.iconst (1), 0, 0, 0)]
theorem k_M_body_160_1 : bok m_M_body 160 b_M_body_160_1 = true := by decide +kernel
def b_M_body_165_3 : List Ins := [(.putfield 349, 11, 34, 3), (.aload_n 0, 0, 0, 0), (.getfield 349, 11, 34, 0)]
theorem k_M_body_165_3 : bok m_M_body 165 b_M_body_165_3 = true := by decide +kernel
def b_M_body_187_2 : List Ins := [(.aload_n 0, 0, 0, 0), (.bipush (13), 0, 0, 0)]
theorem k_M_body_187_2 : bok m_M_body 187 b_M_body_187_2 = true := by decide +kernel
def b_M_body_193_3 : List Ins := [(.aload_n 0, 0, 0, 0), (.iconst (1), 0, 0, 0), (.iload_n 3, 0, 0, 0)]
theorem k_M_body_193_3 : bok m_M_body 193 b_M_body_193_3 = true := by decide +kernel
def b_M_body_199_2 : List Ins := [(.iload 4, 0, 0, 0), (.ixor, 0, 0, 0)]
theorem k_M_body_199_2 : bok m_M_body 199 b_M_body_199_2 = true := by decide +kernel
def b_M_body_203_2 : List Ins := [(.aload_n 0, 0, 0, 0), (.bipush (20), 0, 0, 0)]
theorem k_M_body_203_2 : bok m_M_body 203 b_M_body_203_2 = true := by decide +kernel
def b_M_body_209_4 : List Ins := [(.aload_n 0, 0, 0, 0), (.iconst (0), 0, 0, 0), (.iconst (0), 0, 0, 0), (.iload_n 3, 0, 0, 0)]
theorem k_M_body_209_4 : bok m_M_body 209 b_M_body_209_4 = true := by decide +kernel
def b_M_body_216_2 : List Ins := [(.iconst (3), 0, 0, 0), (.imul, 0, 0, 0)]
theorem k_M_body_216_2 : bok m_M_body 216 b_M_body_216_2 = true := by decide +kernel
def b_M_body_310_2 : List Ins := [(.aload_n 0, 0, 0, 0), (.bipush (61), 0, 0, 0)]
theorem k_M_body_310_2 : bok m_M_body 310 b_M_body_310_2 = true := by decide +kernel
def b_M_body_316_4 : List Ins := [(.aload_n 0, 0, 0, 0), (.iconst (4), 0, 0, 0), (.iconst (2), 0, 0, 0), (.iload_n 3, 0, 0, 0)]
theorem k_M_body_316_4 : bok m_M_body 316 b_M_body_316_4 = true := by decide +kernel
def b_M_body_323_5 : List Ins := [(.istore 6, 0, 0, 0), (.iload 6, 0, 0, 0), (.aload_n 0, 0, 0, 0), (.iconst (0), 0, 0, 0), (.iload 4, 0, 0, 0)]
theorem k_M_body_323_5 : bok m_M_body 323 b_M_body_323_5 = true := by decide +kernel
def b_M_body_334_1 : List Ins := [(.iadd, 0, 0, 0)]
theorem k_M_body_334_1 : bok m_M_body 334 b_M_body_334_1 = true := by decide +kernel
def b_M_body_219_2 : List Ins := [(.aload_n 0, 0, 0, 0), (.bipush (30), 0, 0, 0)]
theorem k_M_body_219_2 : bok m_M_body 219 b_M_body_219_2 = true := by decide +kernel
def b_M_body_225_4 : List Ins := [(.aload_n 0, 0, 0, 0), (.iconst (0), 0, 0, 0), (.iconst (1), 0, 0, 0), (.iload_n 3, 0, 0, 0)]
theorem k_M_body_225_4 : bok m_M_body 225 b_M_body_225_4 = true := by decide +kernel
def b_M_body_232_2 : List Ins := [(.iload 5, 0, 0, 0), (.isub, 0, 0, 0)]
theorem k_M_body_232_2 : bok m_M_body 232 b_M_body_232_2 = true := by decide +kernel
def b_M_body_252_2 : List Ins := [(.aload_n 0, 0, 0, 0), (.bipush (50), 0, 0, 0)]
theorem k_M_body_252_2 : bok m_M_body 252 b_M_body_252_2 = true := by decide +kernel
def b_M_body_258_4 : List Ins := [(.aload_n 0, 0, 0, 0), (.iconst (2), 0, 0, 0), (.iconst (0), 0, 0, 0), (.iload_n 3, 0, 0, 0)]
theorem k_M_body_258_4 : bok m_M_body 258 b_M_body_258_4 = true := by decide +kernel
def b_M_body_265_2 : List Ins := [(.iload 4, 0, 0, 0), (.ixor, 0, 0, 0)]
theorem k_M_body_265_2 : bok m_M_body 265 b_M_body_265_2 = true := by decide +kernel
def b_M_body_269_2 : List Ins := [(.aload_n 0, 0, 0, 0), (.bipush (51), 0, 0, 0)]
theorem k_M_body_269_2 : bok m_M_body 269 b_M_body_269_2 = true := by decide +kernel
def b_M_body_275_4 : List Ins := [(.aload_n 0, 0, 0, 0), (.iconst (2), 0, 0, 0), (.iconst (3), 0, 0, 0), (.iload_n 3, 0, 0, 0)]
theorem k_M_body_275_4 : bok m_M_body 275 b_M_body_275_4 = true := by decide +kernel
def b_M_body_282_5 : List Ins := [(.istore 6, 0, 0, 0), (.iload 6, 0, 0, 0), (.aload_n 0, 0, 0, 0), (.iconst (2), 0, 0, 0), (.iload 4, 0, 0, 0)]
theorem k_M_body_282_5 : bok m_M_body 282 b_M_body_282_5 = true := by decide +kernel
def b_M_body_293_1 : List Ins := [(.iadd, 0, 0, 0)]
theorem k_M_body_293_1 : bok m_M_body 293 b_M_body_293_1 = true := by decide +kernel
def b_M_body_236_2 : List Ins := [(.aload_n 0, 0, 0, 0), (.bipush (40), 0, 0, 0)]
theorem k_M_body_236_2 : bok m_M_body 236 b_M_body_236_2 = true := by decide +kernel
def b_M_body_242_6 : List Ins := [(.aload_n 0, 0, 0, 0), (.iconst (0), 0, 0, 0), (.iconst (2), 0, 0, 0), (.iload_n 3, 0, 0, 0), (.iconst (1), 0, 0, 0), (.iadd, 0, 0, 0)]
theorem k_M_body_242_6 : bok m_M_body 242 b_M_body_242_6 = true := by decide +kernel
def b_M_body_295_2 : List Ins := [(.aload_n 0, 0, 0, 0), (.bipush (60), 0, 0, 0)]
theorem k_M_body_295_2 : bok m_M_body 295 b_M_body_295_2 = true := by decide +kernel
def b_M_body_301_4 : List Ins := [(.aload_n 0, 0, 0, 0), (.iconst (4), 0, 0, 0), (.iconst (1), 0, 0, 0), (.iload_n 3, 0, 0, 0)]
theorem k_M_body_301_4 : bok m_M_body 301 b_M_body_301_4 = true := by decide +kernel
def b_M_body_308_1 : List Ins := [(.ineg, 0, 0, 0)]
theorem k_M_body_308_1 : bok m_M_body 308 b_M_body_308_1 = true := by decide +kernel
theorem d_M_body_17 : decode m_M_body.2.1 17 = .ok (.tableswitch (293) (0) (21) #[103, 114, 129, 170, 186, 293, 293, 293, 293, 202, 293, 293, 235, 293, 293, 252, 293, 293, 219, 293, 293, 278], 103) := by decide +kernel
theorem d_M_body_123 : decode m_M_body.2.1 123 = .ok (.invokevirtual 355, 3) := by decide +kernel
theorem d_M_body_130 : decode m_M_body.2.1 130 = .ok (.ireturn, 1) := by decide +kernel
theorem d_M_body_134 : decode m_M_body.2.1 134 = .ok (.invokevirtual 355, 3) := by decide +kernel
theorem d_M_body_140 : decode m_M_body.2.1 140 = .ok (.invokevirtual 358, 3) := by decide +kernel
theorem d_M_body_145 : decode m_M_body.2.1 145 = .ok (.ireturn, 1) := by decide +kernel
theorem d_M_body_149 : decode m_M_body.2.1 149 = .ok (.invokevirtual 355, 3) := by decide +kernel
theorem d_M_body_157 : decode m_M_body.2.1 157 = .ok (.if_icmp .ne (7), 3) := by decide +kernel
theorem d_M_body_172 : decode m_M_body.2.1 172 = .ok (.ifCond .eq (7), 3) := by decide +kernel
theorem d_M_body_186 : decode m_M_body.2.1 186 = .ok (.ireturn, 1) := by decide +kernel
theorem d_M_body_176 : decode m_M_body.2.1 176 = .ok (.goto (10), 3) := by decide +kernel
theorem d_M_body_161 : decode m_M_body.2.1 161 = .ok (.goto (4), 3) := by decide +kernel
theorem d_M_body_190 : decode m_M_body.2.1 190 = .ok (.invokevirtual 355, 3) := by decide +kernel
theorem d_M_body_196 : decode m_M_body.2.1 196 = .ok (.invokevirtual 358, 3) := by decide +kernel
theorem d_M_body_202 : decode m_M_body.2.1 202 = .ok (.ireturn, 1) := by decide +kernel
theorem d_M_body_206 : decode m_M_body.2.1 206 = .ok (.invokevirtual 355, 3) := by decide +kernel
theorem d_M_body_213 : decode m_M_body.2.1 213 = .ok (.invokevirtual 342, 3) := by decide +kernel
theorem d_M_body_218 : decode m_M_body.2.1 218 = .ok (.ireturn, 1) := by decide +kernel
theorem d_M_body_313 : decode m_M_body.2.1 313 = .ok (.invokevirtual 355, 3) := by decide +kernel
theorem d_M_body_320 : decode m_M_body.2.1 320 = .ok (.invokevirtual 342, 3) := by decide +kernel
theorem d_M_body_331 : decode m_M_body.2.1 331 = .ok (.invokevirtual 358, 3) := by decide +kernel
theorem d_M_body_335 : decode m_M_body.2.1 335 = .ok (.ireturn, 1) := by decide +kernel
theorem d_M_body_222 : decode m_M_body.2.1 222 = .ok (.invokevirtual 355, 3) := by decide +kernel
theorem d_M_body_229 : decode m_M_body.2.1 229 = .ok (.invokevirtual 342, 3) := by decide +kernel
theorem d_M_body_235 : decode m_M_body.2.1 235 = .ok (.ireturn, 1) := by decide +kernel
theorem d_M_body_255 : decode m_M_body.2.1 255 = .ok (.invokevirtual 355, 3) := by decide +kernel
theorem d_M_body_262 : decode m_M_body.2.1 262 = .ok (.invokevirtual 342, 3) := by decide +kernel
theorem d_M_body_268 : decode m_M_body.2.1 268 = .ok (.ireturn, 1) := by decide +kernel
theorem d_M_body_272 : decode m_M_body.2.1 272 = .ok (.invokevirtual 355, 3) := by decide +kernel
theorem d_M_body_279 : decode m_M_body.2.1 279 = .ok (.invokevirtual 342, 3) := by decide +kernel
theorem d_M_body_290 : decode m_M_body.2.1 290 = .ok (.invokevirtual 358, 3) := by decide +kernel
theorem d_M_body_294 : decode m_M_body.2.1 294 = .ok (.ireturn, 1) := by decide +kernel
theorem d_M_body_239 : decode m_M_body.2.1 239 = .ok (.invokevirtual 355, 3) := by decide +kernel
theorem d_M_body_248 : decode m_M_body.2.1 248 = .ok (.invokevirtual 342, 3) := by decide +kernel
theorem d_M_body_251 : decode m_M_body.2.1 251 = .ok (.ireturn, 1) := by decide +kernel
theorem d_M_body_298 : decode m_M_body.2.1 298 = .ok (.invokevirtual 355, 3) := by decide +kernel
theorem d_M_body_305 : decode m_M_body.2.1 305 = .ok (.invokevirtual 342, 3) := by decide +kernel
theorem d_M_body_309 : decode m_M_body.2.1 309 = .ok (.ireturn, 1) := by decide +kernel
def f_M_body (bf : hs → Int32 → Int32 → Int32 → Option (Int32 × hs)) (S : hs) (x1 : Int32) (x2 : Int32) (x3 : Int32) : Option (Int32 × hs) := (if (((4 : Int32) * x1) + x2) = (0 : Int32) then bd (f_M_began  S (10 : Int32)) fun r2 S3 => some ((x3 + (gI S 191 33)), S3) else (if (((4 : Int32) * x1) + x2) = (1 : Int32) then bd (f_M_began  S (11 : Int32)) fun r6 S7 => bd (f_M_voiced bf S7 (0 : Int32) x3) fun r9 S10 => some ((r9 * (2 : Int32)), S10) else (if (((4 : Int32) * x1) + x2) = (2 : Int32) then bd (f_M_began  S (12 : Int32)) fun r13 S14 => (if (gI S 191 33) = (gI S 191 32) then (if (gI (uI S14 191 34 (1 : Int32)) 191 34) = 0 then ck (!(decide (((gI S 191 33) - (gI S 191 32)) = 0))) (some ((x3 / ((gI S 191 33) - (gI S 191 32))), (uI S14 191 34 (1 : Int32)))) else some ((0 : Int32), (uI S14 191 34 (1 : Int32)))) else (if (gI (uI S14 191 34 (0 : Int32)) 191 34) = 0 then ck (!(decide (((gI S 191 33) - (gI S 191 32)) = 0))) (some ((x3 / ((gI S 191 33) - (gI S 191 32))), (uI S14 191 34 (0 : Int32)))) else some ((0 : Int32), (uI S14 191 34 (0 : Int32))))) else (if (((4 : Int32) * x1) + x2) = (3 : Int32) then bd (f_M_began  S (13 : Int32)) fun r22 S23 => bd (f_M_voiced bf S23 (1 : Int32) x3) fun r25 S26 => some ((r25 ^^^ (gI S 191 32)), S26) else (if (((4 : Int32) * x1) + x2) = (4 : Int32) then bd (f_M_began  S (20 : Int32)) fun r29 S30 => bd (bf S30 (0 : Int32) (0 : Int32) x3) fun r32 S33 => some ((r32 * (3 : Int32)), S33) else (if (((4 : Int32) * x1) + x2) = (5 : Int32) then bd (f_M_began  S (61 : Int32)) fun r36 S37 => bd (bf S37 (4 : Int32) (2 : Int32) x3) fun r39 S40 => bd (f_M_voiced bf S40 (0 : Int32) (gI S 191 32)) fun r42 S43 => some ((r39 + r42), S43) else (if (((4 : Int32) * x1) + x2) = (6 : Int32) then bd (f_M_began  S (61 : Int32)) fun r46 S47 => bd (bf S47 (4 : Int32) (2 : Int32) x3) fun r49 S50 => bd (f_M_voiced bf S50 (0 : Int32) (gI S 191 32)) fun r52 S53 => some ((r49 + r52), S53) else (if (((4 : Int32) * x1) + x2) = (7 : Int32) then bd (f_M_began  S (61 : Int32)) fun r56 S57 => bd (bf S57 (4 : Int32) (2 : Int32) x3) fun r59 S60 => bd (f_M_voiced bf S60 (0 : Int32) (gI S 191 32)) fun r62 S63 => some ((r59 + r62), S63) else (if (((4 : Int32) * x1) + x2) = (8 : Int32) then bd (f_M_began  S (61 : Int32)) fun r66 S67 => bd (bf S67 (4 : Int32) (2 : Int32) x3) fun r69 S70 => bd (f_M_voiced bf S70 (0 : Int32) (gI S 191 32)) fun r72 S73 => some ((r69 + r72), S73) else (if (((4 : Int32) * x1) + x2) = (9 : Int32) then bd (f_M_began  S (30 : Int32)) fun r76 S77 => bd (bf S77 (0 : Int32) (1 : Int32) x3) fun r79 S80 => some ((r79 - (gI S 191 33)), S80) else (if (((4 : Int32) * x1) + x2) = (10 : Int32) then bd (f_M_began  S (61 : Int32)) fun r83 S84 => bd (bf S84 (4 : Int32) (2 : Int32) x3) fun r86 S87 => bd (f_M_voiced bf S87 (0 : Int32) (gI S 191 32)) fun r89 S90 => some ((r86 + r89), S90) else (if (((4 : Int32) * x1) + x2) = (11 : Int32) then bd (f_M_began  S (61 : Int32)) fun r93 S94 => bd (bf S94 (4 : Int32) (2 : Int32) x3) fun r96 S97 => bd (f_M_voiced bf S97 (0 : Int32) (gI S 191 32)) fun r99 S100 => some ((r96 + r99), S100) else (if (((4 : Int32) * x1) + x2) = (12 : Int32) then bd (f_M_began  S (50 : Int32)) fun r103 S104 => bd (bf S104 (2 : Int32) (0 : Int32) x3) fun r106 S107 => some ((r106 ^^^ (gI S 191 32)), S107) else (if (((4 : Int32) * x1) + x2) = (13 : Int32) then bd (f_M_began  S (61 : Int32)) fun r110 S111 => bd (bf S111 (4 : Int32) (2 : Int32) x3) fun r113 S114 => bd (f_M_voiced bf S114 (0 : Int32) (gI S 191 32)) fun r116 S117 => some ((r113 + r116), S117) else (if (((4 : Int32) * x1) + x2) = (14 : Int32) then bd (f_M_began  S (61 : Int32)) fun r120 S121 => bd (bf S121 (4 : Int32) (2 : Int32) x3) fun r123 S124 => bd (f_M_voiced bf S124 (0 : Int32) (gI S 191 32)) fun r126 S127 => some ((r123 + r126), S127) else (if (((4 : Int32) * x1) + x2) = (15 : Int32) then bd (f_M_began  S (51 : Int32)) fun r130 S131 => bd (bf S131 (2 : Int32) (3 : Int32) x3) fun r133 S134 => bd (f_M_voiced bf S134 (2 : Int32) (gI S 191 32)) fun r136 S137 => some ((r133 + r136), S137) else (if (((4 : Int32) * x1) + x2) = (16 : Int32) then bd (f_M_began  S (61 : Int32)) fun r140 S141 => bd (bf S141 (4 : Int32) (2 : Int32) x3) fun r143 S144 => bd (f_M_voiced bf S144 (0 : Int32) (gI S 191 32)) fun r146 S147 => some ((r143 + r146), S147) else (if (((4 : Int32) * x1) + x2) = (17 : Int32) then bd (f_M_began  S (61 : Int32)) fun r150 S151 => bd (bf S151 (4 : Int32) (2 : Int32) x3) fun r153 S154 => bd (f_M_voiced bf S154 (0 : Int32) (gI S 191 32)) fun r156 S157 => some ((r153 + r156), S157) else (if (((4 : Int32) * x1) + x2) = (18 : Int32) then bd (f_M_began  S (40 : Int32)) fun r160 S161 => bd (bf S161 (0 : Int32) (2 : Int32) (x3 + (1 : Int32))) fun r163 S164 => some (r163, S164) else (if (((4 : Int32) * x1) + x2) = (19 : Int32) then bd (f_M_began  S (61 : Int32)) fun r167 S168 => bd (bf S168 (4 : Int32) (2 : Int32) x3) fun r170 S171 => bd (f_M_voiced bf S171 (0 : Int32) (gI S 191 32)) fun r173 S174 => some ((r170 + r173), S174) else (if (((4 : Int32) * x1) + x2) = (20 : Int32) then bd (f_M_began  S (61 : Int32)) fun r177 S178 => bd (bf S178 (4 : Int32) (2 : Int32) x3) fun r180 S181 => bd (f_M_voiced bf S181 (0 : Int32) (gI S 191 32)) fun r183 S184 => some ((r180 + r183), S184) else (if (((4 : Int32) * x1) + x2) = (21 : Int32) then bd (f_M_began  S (60 : Int32)) fun r187 S188 => bd (bf S188 (4 : Int32) (1 : Int32) x3) fun r190 S191 => some ((-r190), S191) else bd (f_M_began  S (61 : Int32)) fun r193 S194 => bd (bf S194 (4 : Int32) (2 : Int32) x3) fun r196 S197 => bd (f_M_voiced bf S197 (0 : Int32) (gI S 191 32)) fun r199 S200 => some ((r196 + r199), S200)))))))))))))))))))))))
theorem c_M_body (w : Wd) (d : Nat) (c : cx) {bf : hs → Int32 → Int32 → Int32 → Option (Int32 × hs)} (bf_ok : ∀ (D : Nat), d ≤ D → ∀ (S : hs) (x1 : Int32) (x2 : Int32) (x3 : Int32) (z : Int32 × hs), bf S x1 x2 x3 = some z → Cl w D m_M_bodyFrom [.ref 191, .int x1, .int x2, .int x3] (mk c S) (some (.int z.1)) (mk c z.2)) (S : hs) (x1 : Int32) (x2 : Int32) (x3 : Int32)  {z : Int32 × hs} (H : f_M_body bf S x1 x2 x3 = some z) : Cl w (d + 5) m_M_body [.ref 191, .int x1, .int x2, .int x3] (mk c S) (some (.int z.1)) (mk c z.2) := by
  refine Cl.of (Nat.le_refl _) (Nat.le_refl _) (by decide +kernel) (Nat.le_of_ble_eq_true rfl) ?_
  unfold f_M_body at H
  generalize hN (mk c S) = n0
  generalize hZ (mk c S) = z0
  show J w (d + 5) m_M_body (n0, z0, some (.int z.1), mk c z.2) 0 [some (.ref 191), some (.int x1), some (.int x2), some (.int x3), none, none, none] [] (mk c S)
  refine J.run b_M_body_0_11 k_M_body_0_11 rfl (And.intro (okO_st (S := S) rfl) (And.intro (okO_st (S := S) rfl) (show J w (d + 5) m_M_body (n0, z0, some (.int z.1), mk c z.2) 17 [some (.ref 191), some (.int x1), some (.int x2), some (.int x3), some (.int (gI S 191 32)), some (.int (gI S 191 33)), none] [.int (((4 : Int32) * x1) + x2)] (mk c S) from ?_)))
  by_cases q1 : (((4 : Int32) * x1) + x2) = (0 : Int32)
  · have H := ite_t H q1
    refine J.tsIn (off := 103) (tgt := 120) d_M_body_17 (by rw [q1]; decide) (by rw [q1]; decide) (by rw [q1]; rfl) rfl ?_
    refine J.run b_M_body_120_2 k_M_body_120_2 rfl (show J w (d + 5) m_M_body (n0, z0, some (.int z.1), mk c z.2) 123 [some (.ref 191), some (.int x1), some (.int x2), some (.int x3), some (.int (gI S 191 32)), some (.int (gI S 191 33)), none] [.int (10 : Int32), .ref 191] (mk c S) from ?_)
    obtain ⟨r2, S3, h4, H⟩ := bd_e H
    refine J.callV (y := m_M_began) (av := [.int (10 : Int32)]) (rest := []) (q := 191) l_M_355 d_M_body_123 (isC_st rfl rfl) (c_M_began w (d + 3) c  S (10 : Int32) h4) rfl (Nat.le_of_ble_eq_true rfl) ⟨Nat.le_refl _, Nat.le_refl _⟩ (show J w (d + 5) m_M_body (n0, z0, some (.int z.1), mk c z.2) 126 [some (.ref 191), some (.int x1), some (.int x2), some (.int x3), some (.int (gI S 191 32)), some (.int (gI S 191 33)), none] [] (mk c S3) from ?_)
    refine J.run b_M_body_126_3 k_M_body_126_3 rfl (show J w (d + 5) m_M_body (n0, z0, some (.int z.1), mk c z.2) 130 [some (.ref 191), some (.int x1), some (.int x2), some (.int x3), some (.int (gI S 191 32)), some (.int (gI S 191 33)), none] [.int (x3 + (gI S 191 33))] (mk c S3) from ?_)
    obtain rfl := some_e H
    exact J.iret d_M_body_130 rfl rfl
  · have H := ite_f H q1
    by_cases q5 : (((4 : Int32) * x1) + x2) = (1 : Int32)
    · have H := ite_t H q5
      refine J.tsIn (off := 114) (tgt := 131) d_M_body_17 (by rw [q5]; decide) (by rw [q5]; decide) (by rw [q5]; rfl) rfl ?_
      refine J.run b_M_body_131_2 k_M_body_131_2 rfl (show J w (d + 5) m_M_body (n0, z0, some (.int z.1), mk c z.2) 134 [some (.ref 191), some (.int x1), some (.int x2), some (.int x3), some (.int (gI S 191 32)), some (.int (gI S 191 33)), none] [.int (11 : Int32), .ref 191] (mk c S) from ?_)
      obtain ⟨r6, S7, h8, H⟩ := bd_e H
      refine J.callV (y := m_M_began) (av := [.int (11 : Int32)]) (rest := []) (q := 191) l_M_355 d_M_body_134 (isC_st rfl rfl) (c_M_began w (d + 3) c  S (11 : Int32) h8) rfl (Nat.le_of_ble_eq_true rfl) ⟨Nat.le_refl _, Nat.le_refl _⟩ (show J w (d + 5) m_M_body (n0, z0, some (.int z.1), mk c z.2) 137 [some (.ref 191), some (.int x1), some (.int x2), some (.int x3), some (.int (gI S 191 32)), some (.int (gI S 191 33)), none] [] (mk c S7) from ?_)
      refine J.run b_M_body_137_3 k_M_body_137_3 rfl (show J w (d + 5) m_M_body (n0, z0, some (.int z.1), mk c z.2) 140 [some (.ref 191), some (.int x1), some (.int x2), some (.int x3), some (.int (gI S 191 32)), some (.int (gI S 191 33)), none] [.int x3, .int (0 : Int32), .ref 191] (mk c S7) from ?_)
      obtain ⟨r9, S10, h11, H⟩ := bd_e H
      refine J.callV (y := m_M_voiced) (av := [.int (0 : Int32), .int x3]) (rest := []) (q := 191) l_M_358 d_M_body_140 (isC_st rfl rfl) (c_M_voiced w (d + 0) c (fun D hD => bf_ok D (Nat.le_trans (Nat.le_add_right d 0) hD)) S7 (0 : Int32) x3 h11) rfl (Nat.le_of_ble_eq_true rfl) ⟨Nat.le_refl _, Nat.le_refl _⟩ (show J w (d + 5) m_M_body (n0, z0, some (.int z.1), mk c z.2) 143 [some (.ref 191), some (.int x1), some (.int x2), some (.int x3), some (.int (gI S 191 32)), some (.int (gI S 191 33)), none] [.int r9] (mk c S10) from ?_)
      refine J.run b_M_body_143_2 k_M_body_143_2 rfl (show J w (d + 5) m_M_body (n0, z0, some (.int z.1), mk c z.2) 145 [some (.ref 191), some (.int x1), some (.int x2), some (.int x3), some (.int (gI S 191 32)), some (.int (gI S 191 33)), none] [.int (r9 * (2 : Int32))] (mk c S10) from ?_)
      obtain rfl := some_e H
      exact J.iret d_M_body_145 rfl rfl
    · have H := ite_f H q5
      by_cases q12 : (((4 : Int32) * x1) + x2) = (2 : Int32)
      · have H := ite_t H q12
        refine J.tsIn (off := 129) (tgt := 146) d_M_body_17 (by rw [q12]; decide) (by rw [q12]; decide) (by rw [q12]; rfl) rfl ?_
        refine J.run b_M_body_146_2 k_M_body_146_2 rfl (show J w (d + 5) m_M_body (n0, z0, some (.int z.1), mk c z.2) 149 [some (.ref 191), some (.int x1), some (.int x2), some (.int x3), some (.int (gI S 191 32)), some (.int (gI S 191 33)), none] [.int (12 : Int32), .ref 191] (mk c S) from ?_)
        obtain ⟨r13, S14, h15, H⟩ := bd_e H
        refine J.callV (y := m_M_began) (av := [.int (12 : Int32)]) (rest := []) (q := 191) l_M_355 d_M_body_149 (isC_st rfl rfl) (c_M_began w (d + 3) c  S (12 : Int32) h15) rfl (Nat.le_of_ble_eq_true rfl) ⟨Nat.le_refl _, Nat.le_refl _⟩ (show J w (d + 5) m_M_body (n0, z0, some (.int z.1), mk c z.2) 152 [some (.ref 191), some (.int x1), some (.int x2), some (.int x3), some (.int (gI S 191 32)), some (.int (gI S 191 33)), none] [] (mk c S14) from ?_)
        refine J.run b_M_body_152_3 k_M_body_152_3 rfl (show J w (d + 5) m_M_body (n0, z0, some (.int z.1), mk c z.2) 157 [some (.ref 191), some (.int x1), some (.int x2), some (.int x3), some (.int (gI S 191 32)), some (.int (gI S 191 33)), none] [.int (gI S 191 32), .int (gI S 191 33), .ref 191] (mk c S14) from ?_)
        refine J.cne (tgt := 164) d_M_body_157 rfl (fun q16 => ?_) (fun q16 => ?_)
        · have H := ite_f H q16
          refine J.run b_M_body_164_4 k_M_body_164_4 rfl (And.intro (okO_st (S := S14) rfl) (And.intro (by decide) (And.intro (okO_st (S := (uI S14 191 34 (0 : Int32))) rfl) (show J w (d + 5) m_M_body (n0, z0, some (.int z.1), mk c z.2) 172 [some (.ref 191), some (.int x1), some (.int x2), some (.int x3), some (.int (gI S 191 32)), some (.int (gI S 191 33)), none] [.int (gI (uI S14 191 34 (0 : Int32)) 191 34)] (mk c (uI S14 191 34 (0 : Int32))) from ?_))))
          refine J.zeq (tgt := 179) d_M_body_172 rfl (fun q17 => ?_) (fun q17 => ?_)
          · have H := ite_t H q17
            obtain ⟨g18, H⟩ := ck_e H
            refine J.run b_M_body_179_5 k_M_body_179_5 rfl (And.intro (nz_e g18) (show J w (d + 5) m_M_body (n0, z0, some (.int z.1), mk c z.2) 186 [some (.ref 191), some (.int x1), some (.int x2), some (.int x3), some (.int (gI S 191 32)), some (.int (gI S 191 33)), none] [.int (x3 / ((gI S 191 33) - (gI S 191 32)))] (mk c (uI S14 191 34 (0 : Int32))) from ?_))
            obtain rfl := some_e H
            exact J.iret d_M_body_186 rfl rfl
          · have H := ite_f H q17
            refine J.run b_M_body_175_1 k_M_body_175_1 rfl (show J w (d + 5) m_M_body (n0, z0, some (.int z.1), mk c z.2) 176 [some (.ref 191), some (.int x1), some (.int x2), some (.int x3), some (.int (gI S 191 32)), some (.int (gI S 191 33)), none] [.int (0 : Int32)] (mk c (uI S14 191 34 (0 : Int32))) from ?_)
            refine J.goto (tgt := 186) d_M_body_176 rfl ?_
            obtain rfl := some_e H
            exact J.iret d_M_body_186 rfl rfl
        · have H := ite_t H q16
          refine J.run b_M_body_160_1 k_M_body_160_1 rfl (show J w (d + 5) m_M_body (n0, z0, some (.int z.1), mk c z.2) 161 [some (.ref 191), some (.int x1), some (.int x2), some (.int x3), some (.int (gI S 191 32)), some (.int (gI S 191 33)), none] [.int (1 : Int32), .ref 191] (mk c S14) from ?_)
          refine J.goto (tgt := 165) d_M_body_161 rfl ?_
          refine J.run b_M_body_165_3 k_M_body_165_3 rfl (And.intro (okO_st (S := S14) rfl) (And.intro (by decide) (And.intro (okO_st (S := (uI S14 191 34 (1 : Int32))) rfl) (show J w (d + 5) m_M_body (n0, z0, some (.int z.1), mk c z.2) 172 [some (.ref 191), some (.int x1), some (.int x2), some (.int x3), some (.int (gI S 191 32)), some (.int (gI S 191 33)), none] [.int (gI (uI S14 191 34 (1 : Int32)) 191 34)] (mk c (uI S14 191 34 (1 : Int32))) from ?_))))
          refine J.zeq (tgt := 179) d_M_body_172 rfl (fun q19 => ?_) (fun q19 => ?_)
          · have H := ite_t H q19
            obtain ⟨g20, H⟩ := ck_e H
            refine J.run b_M_body_179_5 k_M_body_179_5 rfl (And.intro (nz_e g20) (show J w (d + 5) m_M_body (n0, z0, some (.int z.1), mk c z.2) 186 [some (.ref 191), some (.int x1), some (.int x2), some (.int x3), some (.int (gI S 191 32)), some (.int (gI S 191 33)), none] [.int (x3 / ((gI S 191 33) - (gI S 191 32)))] (mk c (uI S14 191 34 (1 : Int32))) from ?_))
            obtain rfl := some_e H
            exact J.iret d_M_body_186 rfl rfl
          · have H := ite_f H q19
            refine J.run b_M_body_175_1 k_M_body_175_1 rfl (show J w (d + 5) m_M_body (n0, z0, some (.int z.1), mk c z.2) 176 [some (.ref 191), some (.int x1), some (.int x2), some (.int x3), some (.int (gI S 191 32)), some (.int (gI S 191 33)), none] [.int (0 : Int32)] (mk c (uI S14 191 34 (1 : Int32))) from ?_)
            refine J.goto (tgt := 186) d_M_body_176 rfl ?_
            obtain rfl := some_e H
            exact J.iret d_M_body_186 rfl rfl
      · have H := ite_f H q12
        by_cases q21 : (((4 : Int32) * x1) + x2) = (3 : Int32)
        · have H := ite_t H q21
          refine J.tsIn (off := 170) (tgt := 187) d_M_body_17 (by rw [q21]; decide) (by rw [q21]; decide) (by rw [q21]; rfl) rfl ?_
          refine J.run b_M_body_187_2 k_M_body_187_2 rfl (show J w (d + 5) m_M_body (n0, z0, some (.int z.1), mk c z.2) 190 [some (.ref 191), some (.int x1), some (.int x2), some (.int x3), some (.int (gI S 191 32)), some (.int (gI S 191 33)), none] [.int (13 : Int32), .ref 191] (mk c S) from ?_)
          obtain ⟨r22, S23, h24, H⟩ := bd_e H
          refine J.callV (y := m_M_began) (av := [.int (13 : Int32)]) (rest := []) (q := 191) l_M_355 d_M_body_190 (isC_st rfl rfl) (c_M_began w (d + 3) c  S (13 : Int32) h24) rfl (Nat.le_of_ble_eq_true rfl) ⟨Nat.le_refl _, Nat.le_refl _⟩ (show J w (d + 5) m_M_body (n0, z0, some (.int z.1), mk c z.2) 193 [some (.ref 191), some (.int x1), some (.int x2), some (.int x3), some (.int (gI S 191 32)), some (.int (gI S 191 33)), none] [] (mk c S23) from ?_)
          refine J.run b_M_body_193_3 k_M_body_193_3 rfl (show J w (d + 5) m_M_body (n0, z0, some (.int z.1), mk c z.2) 196 [some (.ref 191), some (.int x1), some (.int x2), some (.int x3), some (.int (gI S 191 32)), some (.int (gI S 191 33)), none] [.int x3, .int (1 : Int32), .ref 191] (mk c S23) from ?_)
          obtain ⟨r25, S26, h27, H⟩ := bd_e H
          refine J.callV (y := m_M_voiced) (av := [.int (1 : Int32), .int x3]) (rest := []) (q := 191) l_M_358 d_M_body_196 (isC_st rfl rfl) (c_M_voiced w (d + 0) c (fun D hD => bf_ok D (Nat.le_trans (Nat.le_add_right d 0) hD)) S23 (1 : Int32) x3 h27) rfl (Nat.le_of_ble_eq_true rfl) ⟨Nat.le_refl _, Nat.le_refl _⟩ (show J w (d + 5) m_M_body (n0, z0, some (.int z.1), mk c z.2) 199 [some (.ref 191), some (.int x1), some (.int x2), some (.int x3), some (.int (gI S 191 32)), some (.int (gI S 191 33)), none] [.int r25] (mk c S26) from ?_)
          refine J.run b_M_body_199_2 k_M_body_199_2 rfl (show J w (d + 5) m_M_body (n0, z0, some (.int z.1), mk c z.2) 202 [some (.ref 191), some (.int x1), some (.int x2), some (.int x3), some (.int (gI S 191 32)), some (.int (gI S 191 33)), none] [.int (r25 ^^^ (gI S 191 32))] (mk c S26) from ?_)
          obtain rfl := some_e H
          exact J.iret d_M_body_202 rfl rfl
        · have H := ite_f H q21
          by_cases q28 : (((4 : Int32) * x1) + x2) = (4 : Int32)
          · have H := ite_t H q28
            refine J.tsIn (off := 186) (tgt := 203) d_M_body_17 (by rw [q28]; decide) (by rw [q28]; decide) (by rw [q28]; rfl) rfl ?_
            refine J.run b_M_body_203_2 k_M_body_203_2 rfl (show J w (d + 5) m_M_body (n0, z0, some (.int z.1), mk c z.2) 206 [some (.ref 191), some (.int x1), some (.int x2), some (.int x3), some (.int (gI S 191 32)), some (.int (gI S 191 33)), none] [.int (20 : Int32), .ref 191] (mk c S) from ?_)
            obtain ⟨r29, S30, h31, H⟩ := bd_e H
            refine J.callV (y := m_M_began) (av := [.int (20 : Int32)]) (rest := []) (q := 191) l_M_355 d_M_body_206 (isC_st rfl rfl) (c_M_began w (d + 3) c  S (20 : Int32) h31) rfl (Nat.le_of_ble_eq_true rfl) ⟨Nat.le_refl _, Nat.le_refl _⟩ (show J w (d + 5) m_M_body (n0, z0, some (.int z.1), mk c z.2) 209 [some (.ref 191), some (.int x1), some (.int x2), some (.int x3), some (.int (gI S 191 32)), some (.int (gI S 191 33)), none] [] (mk c S30) from ?_)
            refine J.run b_M_body_209_4 k_M_body_209_4 rfl (show J w (d + 5) m_M_body (n0, z0, some (.int z.1), mk c z.2) 213 [some (.ref 191), some (.int x1), some (.int x2), some (.int x3), some (.int (gI S 191 32)), some (.int (gI S 191 33)), none] [.int x3, .int (0 : Int32), .int (0 : Int32), .ref 191] (mk c S30) from ?_)
            obtain ⟨r32, S33, h34, H⟩ := bd_e H
            refine J.callV (y := m_M_bodyFrom) (av := [.int (0 : Int32), .int (0 : Int32), .int x3]) (rest := []) (q := 191) l_M_342 d_M_body_213 (isC_st rfl rfl) (bf_ok (d + 4) (Nat.le_add_right _ _) S30 (0 : Int32) (0 : Int32) x3 _ h34) rfl (Nat.le_of_ble_eq_true rfl) ⟨Nat.le_refl _, Nat.le_refl _⟩ (show J w (d + 5) m_M_body (n0, z0, some (.int z.1), mk c z.2) 216 [some (.ref 191), some (.int x1), some (.int x2), some (.int x3), some (.int (gI S 191 32)), some (.int (gI S 191 33)), none] [.int r32] (mk c S33) from ?_)
            refine J.run b_M_body_216_2 k_M_body_216_2 rfl (show J w (d + 5) m_M_body (n0, z0, some (.int z.1), mk c z.2) 218 [some (.ref 191), some (.int x1), some (.int x2), some (.int x3), some (.int (gI S 191 32)), some (.int (gI S 191 33)), none] [.int (r32 * (3 : Int32))] (mk c S33) from ?_)
            obtain rfl := some_e H
            exact J.iret d_M_body_218 rfl rfl
          · have H := ite_f H q28
            by_cases q35 : (((4 : Int32) * x1) + x2) = (5 : Int32)
            · have H := ite_t H q35
              refine J.tsIn (off := 293) (tgt := 310) d_M_body_17 (by rw [q35]; decide) (by rw [q35]; decide) (by rw [q35]; rfl) rfl ?_
              refine J.run b_M_body_310_2 k_M_body_310_2 rfl (show J w (d + 5) m_M_body (n0, z0, some (.int z.1), mk c z.2) 313 [some (.ref 191), some (.int x1), some (.int x2), some (.int x3), some (.int (gI S 191 32)), some (.int (gI S 191 33)), none] [.int (61 : Int32), .ref 191] (mk c S) from ?_)
              obtain ⟨r36, S37, h38, H⟩ := bd_e H
              refine J.callV (y := m_M_began) (av := [.int (61 : Int32)]) (rest := []) (q := 191) l_M_355 d_M_body_313 (isC_st rfl rfl) (c_M_began w (d + 3) c  S (61 : Int32) h38) rfl (Nat.le_of_ble_eq_true rfl) ⟨Nat.le_refl _, Nat.le_refl _⟩ (show J w (d + 5) m_M_body (n0, z0, some (.int z.1), mk c z.2) 316 [some (.ref 191), some (.int x1), some (.int x2), some (.int x3), some (.int (gI S 191 32)), some (.int (gI S 191 33)), none] [] (mk c S37) from ?_)
              refine J.run b_M_body_316_4 k_M_body_316_4 rfl (show J w (d + 5) m_M_body (n0, z0, some (.int z.1), mk c z.2) 320 [some (.ref 191), some (.int x1), some (.int x2), some (.int x3), some (.int (gI S 191 32)), some (.int (gI S 191 33)), none] [.int x3, .int (2 : Int32), .int (4 : Int32), .ref 191] (mk c S37) from ?_)
              obtain ⟨r39, S40, h41, H⟩ := bd_e H
              refine J.callV (y := m_M_bodyFrom) (av := [.int (4 : Int32), .int (2 : Int32), .int x3]) (rest := []) (q := 191) l_M_342 d_M_body_320 (isC_st rfl rfl) (bf_ok (d + 4) (Nat.le_add_right _ _) S37 (4 : Int32) (2 : Int32) x3 _ h41) rfl (Nat.le_of_ble_eq_true rfl) ⟨Nat.le_refl _, Nat.le_refl _⟩ (show J w (d + 5) m_M_body (n0, z0, some (.int z.1), mk c z.2) 323 [some (.ref 191), some (.int x1), some (.int x2), some (.int x3), some (.int (gI S 191 32)), some (.int (gI S 191 33)), none] [.int r39] (mk c S40) from ?_)
              refine J.run b_M_body_323_5 k_M_body_323_5 rfl (show J w (d + 5) m_M_body (n0, z0, some (.int z.1), mk c z.2) 331 [some (.ref 191), some (.int x1), some (.int x2), some (.int x3), some (.int (gI S 191 32)), some (.int (gI S 191 33)), some (.int r39)] [.int (gI S 191 32), .int (0 : Int32), .ref 191, .int r39] (mk c S40) from ?_)
              obtain ⟨r42, S43, h44, H⟩ := bd_e H
              refine J.callV (y := m_M_voiced) (av := [.int (0 : Int32), .int (gI S 191 32)]) (rest := [.int r39]) (q := 191) l_M_358 d_M_body_331 (isC_st rfl rfl) (c_M_voiced w (d + 0) c (fun D hD => bf_ok D (Nat.le_trans (Nat.le_add_right d 0) hD)) S40 (0 : Int32) (gI S 191 32) h44) rfl (Nat.le_of_ble_eq_true rfl) ⟨Nat.le_refl _, Nat.le_refl _⟩ (show J w (d + 5) m_M_body (n0, z0, some (.int z.1), mk c z.2) 334 [some (.ref 191), some (.int x1), some (.int x2), some (.int x3), some (.int (gI S 191 32)), some (.int (gI S 191 33)), some (.int r39)] [.int r42, .int r39] (mk c S43) from ?_)
              refine J.run b_M_body_334_1 k_M_body_334_1 rfl (show J w (d + 5) m_M_body (n0, z0, some (.int z.1), mk c z.2) 335 [some (.ref 191), some (.int x1), some (.int x2), some (.int x3), some (.int (gI S 191 32)), some (.int (gI S 191 33)), some (.int r39)] [.int (r39 + r42)] (mk c S43) from ?_)
              obtain rfl := some_e H
              exact J.iret d_M_body_335 rfl rfl
            · have H := ite_f H q35
              by_cases q45 : (((4 : Int32) * x1) + x2) = (6 : Int32)
              · have H := ite_t H q45
                refine J.tsIn (off := 293) (tgt := 310) d_M_body_17 (by rw [q45]; decide) (by rw [q45]; decide) (by rw [q45]; rfl) rfl ?_
                refine J.run b_M_body_310_2 k_M_body_310_2 rfl (show J w (d + 5) m_M_body (n0, z0, some (.int z.1), mk c z.2) 313 [some (.ref 191), some (.int x1), some (.int x2), some (.int x3), some (.int (gI S 191 32)), some (.int (gI S 191 33)), none] [.int (61 : Int32), .ref 191] (mk c S) from ?_)
                obtain ⟨r46, S47, h48, H⟩ := bd_e H
                refine J.callV (y := m_M_began) (av := [.int (61 : Int32)]) (rest := []) (q := 191) l_M_355 d_M_body_313 (isC_st rfl rfl) (c_M_began w (d + 3) c  S (61 : Int32) h48) rfl (Nat.le_of_ble_eq_true rfl) ⟨Nat.le_refl _, Nat.le_refl _⟩ (show J w (d + 5) m_M_body (n0, z0, some (.int z.1), mk c z.2) 316 [some (.ref 191), some (.int x1), some (.int x2), some (.int x3), some (.int (gI S 191 32)), some (.int (gI S 191 33)), none] [] (mk c S47) from ?_)
                refine J.run b_M_body_316_4 k_M_body_316_4 rfl (show J w (d + 5) m_M_body (n0, z0, some (.int z.1), mk c z.2) 320 [some (.ref 191), some (.int x1), some (.int x2), some (.int x3), some (.int (gI S 191 32)), some (.int (gI S 191 33)), none] [.int x3, .int (2 : Int32), .int (4 : Int32), .ref 191] (mk c S47) from ?_)
                obtain ⟨r49, S50, h51, H⟩ := bd_e H
                refine J.callV (y := m_M_bodyFrom) (av := [.int (4 : Int32), .int (2 : Int32), .int x3]) (rest := []) (q := 191) l_M_342 d_M_body_320 (isC_st rfl rfl) (bf_ok (d + 4) (Nat.le_add_right _ _) S47 (4 : Int32) (2 : Int32) x3 _ h51) rfl (Nat.le_of_ble_eq_true rfl) ⟨Nat.le_refl _, Nat.le_refl _⟩ (show J w (d + 5) m_M_body (n0, z0, some (.int z.1), mk c z.2) 323 [some (.ref 191), some (.int x1), some (.int x2), some (.int x3), some (.int (gI S 191 32)), some (.int (gI S 191 33)), none] [.int r49] (mk c S50) from ?_)
                refine J.run b_M_body_323_5 k_M_body_323_5 rfl (show J w (d + 5) m_M_body (n0, z0, some (.int z.1), mk c z.2) 331 [some (.ref 191), some (.int x1), some (.int x2), some (.int x3), some (.int (gI S 191 32)), some (.int (gI S 191 33)), some (.int r49)] [.int (gI S 191 32), .int (0 : Int32), .ref 191, .int r49] (mk c S50) from ?_)
                obtain ⟨r52, S53, h54, H⟩ := bd_e H
                refine J.callV (y := m_M_voiced) (av := [.int (0 : Int32), .int (gI S 191 32)]) (rest := [.int r49]) (q := 191) l_M_358 d_M_body_331 (isC_st rfl rfl) (c_M_voiced w (d + 0) c (fun D hD => bf_ok D (Nat.le_trans (Nat.le_add_right d 0) hD)) S50 (0 : Int32) (gI S 191 32) h54) rfl (Nat.le_of_ble_eq_true rfl) ⟨Nat.le_refl _, Nat.le_refl _⟩ (show J w (d + 5) m_M_body (n0, z0, some (.int z.1), mk c z.2) 334 [some (.ref 191), some (.int x1), some (.int x2), some (.int x3), some (.int (gI S 191 32)), some (.int (gI S 191 33)), some (.int r49)] [.int r52, .int r49] (mk c S53) from ?_)
                refine J.run b_M_body_334_1 k_M_body_334_1 rfl (show J w (d + 5) m_M_body (n0, z0, some (.int z.1), mk c z.2) 335 [some (.ref 191), some (.int x1), some (.int x2), some (.int x3), some (.int (gI S 191 32)), some (.int (gI S 191 33)), some (.int r49)] [.int (r49 + r52)] (mk c S53) from ?_)
                obtain rfl := some_e H
                exact J.iret d_M_body_335 rfl rfl
              · have H := ite_f H q45
                by_cases q55 : (((4 : Int32) * x1) + x2) = (7 : Int32)
                · have H := ite_t H q55
                  refine J.tsIn (off := 293) (tgt := 310) d_M_body_17 (by rw [q55]; decide) (by rw [q55]; decide) (by rw [q55]; rfl) rfl ?_
                  refine J.run b_M_body_310_2 k_M_body_310_2 rfl (show J w (d + 5) m_M_body (n0, z0, some (.int z.1), mk c z.2) 313 [some (.ref 191), some (.int x1), some (.int x2), some (.int x3), some (.int (gI S 191 32)), some (.int (gI S 191 33)), none] [.int (61 : Int32), .ref 191] (mk c S) from ?_)
                  obtain ⟨r56, S57, h58, H⟩ := bd_e H
                  refine J.callV (y := m_M_began) (av := [.int (61 : Int32)]) (rest := []) (q := 191) l_M_355 d_M_body_313 (isC_st rfl rfl) (c_M_began w (d + 3) c  S (61 : Int32) h58) rfl (Nat.le_of_ble_eq_true rfl) ⟨Nat.le_refl _, Nat.le_refl _⟩ (show J w (d + 5) m_M_body (n0, z0, some (.int z.1), mk c z.2) 316 [some (.ref 191), some (.int x1), some (.int x2), some (.int x3), some (.int (gI S 191 32)), some (.int (gI S 191 33)), none] [] (mk c S57) from ?_)
                  refine J.run b_M_body_316_4 k_M_body_316_4 rfl (show J w (d + 5) m_M_body (n0, z0, some (.int z.1), mk c z.2) 320 [some (.ref 191), some (.int x1), some (.int x2), some (.int x3), some (.int (gI S 191 32)), some (.int (gI S 191 33)), none] [.int x3, .int (2 : Int32), .int (4 : Int32), .ref 191] (mk c S57) from ?_)
                  obtain ⟨r59, S60, h61, H⟩ := bd_e H
                  refine J.callV (y := m_M_bodyFrom) (av := [.int (4 : Int32), .int (2 : Int32), .int x3]) (rest := []) (q := 191) l_M_342 d_M_body_320 (isC_st rfl rfl) (bf_ok (d + 4) (Nat.le_add_right _ _) S57 (4 : Int32) (2 : Int32) x3 _ h61) rfl (Nat.le_of_ble_eq_true rfl) ⟨Nat.le_refl _, Nat.le_refl _⟩ (show J w (d + 5) m_M_body (n0, z0, some (.int z.1), mk c z.2) 323 [some (.ref 191), some (.int x1), some (.int x2), some (.int x3), some (.int (gI S 191 32)), some (.int (gI S 191 33)), none] [.int r59] (mk c S60) from ?_)
                  refine J.run b_M_body_323_5 k_M_body_323_5 rfl (show J w (d + 5) m_M_body (n0, z0, some (.int z.1), mk c z.2) 331 [some (.ref 191), some (.int x1), some (.int x2), some (.int x3), some (.int (gI S 191 32)), some (.int (gI S 191 33)), some (.int r59)] [.int (gI S 191 32), .int (0 : Int32), .ref 191, .int r59] (mk c S60) from ?_)
                  obtain ⟨r62, S63, h64, H⟩ := bd_e H
                  refine J.callV (y := m_M_voiced) (av := [.int (0 : Int32), .int (gI S 191 32)]) (rest := [.int r59]) (q := 191) l_M_358 d_M_body_331 (isC_st rfl rfl) (c_M_voiced w (d + 0) c (fun D hD => bf_ok D (Nat.le_trans (Nat.le_add_right d 0) hD)) S60 (0 : Int32) (gI S 191 32) h64) rfl (Nat.le_of_ble_eq_true rfl) ⟨Nat.le_refl _, Nat.le_refl _⟩ (show J w (d + 5) m_M_body (n0, z0, some (.int z.1), mk c z.2) 334 [some (.ref 191), some (.int x1), some (.int x2), some (.int x3), some (.int (gI S 191 32)), some (.int (gI S 191 33)), some (.int r59)] [.int r62, .int r59] (mk c S63) from ?_)
                  refine J.run b_M_body_334_1 k_M_body_334_1 rfl (show J w (d + 5) m_M_body (n0, z0, some (.int z.1), mk c z.2) 335 [some (.ref 191), some (.int x1), some (.int x2), some (.int x3), some (.int (gI S 191 32)), some (.int (gI S 191 33)), some (.int r59)] [.int (r59 + r62)] (mk c S63) from ?_)
                  obtain rfl := some_e H
                  exact J.iret d_M_body_335 rfl rfl
                · have H := ite_f H q55
                  by_cases q65 : (((4 : Int32) * x1) + x2) = (8 : Int32)
                  · have H := ite_t H q65
                    refine J.tsIn (off := 293) (tgt := 310) d_M_body_17 (by rw [q65]; decide) (by rw [q65]; decide) (by rw [q65]; rfl) rfl ?_
                    refine J.run b_M_body_310_2 k_M_body_310_2 rfl (show J w (d + 5) m_M_body (n0, z0, some (.int z.1), mk c z.2) 313 [some (.ref 191), some (.int x1), some (.int x2), some (.int x3), some (.int (gI S 191 32)), some (.int (gI S 191 33)), none] [.int (61 : Int32), .ref 191] (mk c S) from ?_)
                    obtain ⟨r66, S67, h68, H⟩ := bd_e H
                    refine J.callV (y := m_M_began) (av := [.int (61 : Int32)]) (rest := []) (q := 191) l_M_355 d_M_body_313 (isC_st rfl rfl) (c_M_began w (d + 3) c  S (61 : Int32) h68) rfl (Nat.le_of_ble_eq_true rfl) ⟨Nat.le_refl _, Nat.le_refl _⟩ (show J w (d + 5) m_M_body (n0, z0, some (.int z.1), mk c z.2) 316 [some (.ref 191), some (.int x1), some (.int x2), some (.int x3), some (.int (gI S 191 32)), some (.int (gI S 191 33)), none] [] (mk c S67) from ?_)
                    refine J.run b_M_body_316_4 k_M_body_316_4 rfl (show J w (d + 5) m_M_body (n0, z0, some (.int z.1), mk c z.2) 320 [some (.ref 191), some (.int x1), some (.int x2), some (.int x3), some (.int (gI S 191 32)), some (.int (gI S 191 33)), none] [.int x3, .int (2 : Int32), .int (4 : Int32), .ref 191] (mk c S67) from ?_)
                    obtain ⟨r69, S70, h71, H⟩ := bd_e H
                    refine J.callV (y := m_M_bodyFrom) (av := [.int (4 : Int32), .int (2 : Int32), .int x3]) (rest := []) (q := 191) l_M_342 d_M_body_320 (isC_st rfl rfl) (bf_ok (d + 4) (Nat.le_add_right _ _) S67 (4 : Int32) (2 : Int32) x3 _ h71) rfl (Nat.le_of_ble_eq_true rfl) ⟨Nat.le_refl _, Nat.le_refl _⟩ (show J w (d + 5) m_M_body (n0, z0, some (.int z.1), mk c z.2) 323 [some (.ref 191), some (.int x1), some (.int x2), some (.int x3), some (.int (gI S 191 32)), some (.int (gI S 191 33)), none] [.int r69] (mk c S70) from ?_)
                    refine J.run b_M_body_323_5 k_M_body_323_5 rfl (show J w (d + 5) m_M_body (n0, z0, some (.int z.1), mk c z.2) 331 [some (.ref 191), some (.int x1), some (.int x2), some (.int x3), some (.int (gI S 191 32)), some (.int (gI S 191 33)), some (.int r69)] [.int (gI S 191 32), .int (0 : Int32), .ref 191, .int r69] (mk c S70) from ?_)
                    obtain ⟨r72, S73, h74, H⟩ := bd_e H
                    refine J.callV (y := m_M_voiced) (av := [.int (0 : Int32), .int (gI S 191 32)]) (rest := [.int r69]) (q := 191) l_M_358 d_M_body_331 (isC_st rfl rfl) (c_M_voiced w (d + 0) c (fun D hD => bf_ok D (Nat.le_trans (Nat.le_add_right d 0) hD)) S70 (0 : Int32) (gI S 191 32) h74) rfl (Nat.le_of_ble_eq_true rfl) ⟨Nat.le_refl _, Nat.le_refl _⟩ (show J w (d + 5) m_M_body (n0, z0, some (.int z.1), mk c z.2) 334 [some (.ref 191), some (.int x1), some (.int x2), some (.int x3), some (.int (gI S 191 32)), some (.int (gI S 191 33)), some (.int r69)] [.int r72, .int r69] (mk c S73) from ?_)
                    refine J.run b_M_body_334_1 k_M_body_334_1 rfl (show J w (d + 5) m_M_body (n0, z0, some (.int z.1), mk c z.2) 335 [some (.ref 191), some (.int x1), some (.int x2), some (.int x3), some (.int (gI S 191 32)), some (.int (gI S 191 33)), some (.int r69)] [.int (r69 + r72)] (mk c S73) from ?_)
                    obtain rfl := some_e H
                    exact J.iret d_M_body_335 rfl rfl
                  · have H := ite_f H q65
                    by_cases q75 : (((4 : Int32) * x1) + x2) = (9 : Int32)
                    · have H := ite_t H q75
                      refine J.tsIn (off := 202) (tgt := 219) d_M_body_17 (by rw [q75]; decide) (by rw [q75]; decide) (by rw [q75]; rfl) rfl ?_
                      refine J.run b_M_body_219_2 k_M_body_219_2 rfl (show J w (d + 5) m_M_body (n0, z0, some (.int z.1), mk c z.2) 222 [some (.ref 191), some (.int x1), some (.int x2), some (.int x3), some (.int (gI S 191 32)), some (.int (gI S 191 33)), none] [.int (30 : Int32), .ref 191] (mk c S) from ?_)
                      obtain ⟨r76, S77, h78, H⟩ := bd_e H
                      refine J.callV (y := m_M_began) (av := [.int (30 : Int32)]) (rest := []) (q := 191) l_M_355 d_M_body_222 (isC_st rfl rfl) (c_M_began w (d + 3) c  S (30 : Int32) h78) rfl (Nat.le_of_ble_eq_true rfl) ⟨Nat.le_refl _, Nat.le_refl _⟩ (show J w (d + 5) m_M_body (n0, z0, some (.int z.1), mk c z.2) 225 [some (.ref 191), some (.int x1), some (.int x2), some (.int x3), some (.int (gI S 191 32)), some (.int (gI S 191 33)), none] [] (mk c S77) from ?_)
                      refine J.run b_M_body_225_4 k_M_body_225_4 rfl (show J w (d + 5) m_M_body (n0, z0, some (.int z.1), mk c z.2) 229 [some (.ref 191), some (.int x1), some (.int x2), some (.int x3), some (.int (gI S 191 32)), some (.int (gI S 191 33)), none] [.int x3, .int (1 : Int32), .int (0 : Int32), .ref 191] (mk c S77) from ?_)
                      obtain ⟨r79, S80, h81, H⟩ := bd_e H
                      refine J.callV (y := m_M_bodyFrom) (av := [.int (0 : Int32), .int (1 : Int32), .int x3]) (rest := []) (q := 191) l_M_342 d_M_body_229 (isC_st rfl rfl) (bf_ok (d + 4) (Nat.le_add_right _ _) S77 (0 : Int32) (1 : Int32) x3 _ h81) rfl (Nat.le_of_ble_eq_true rfl) ⟨Nat.le_refl _, Nat.le_refl _⟩ (show J w (d + 5) m_M_body (n0, z0, some (.int z.1), mk c z.2) 232 [some (.ref 191), some (.int x1), some (.int x2), some (.int x3), some (.int (gI S 191 32)), some (.int (gI S 191 33)), none] [.int r79] (mk c S80) from ?_)
                      refine J.run b_M_body_232_2 k_M_body_232_2 rfl (show J w (d + 5) m_M_body (n0, z0, some (.int z.1), mk c z.2) 235 [some (.ref 191), some (.int x1), some (.int x2), some (.int x3), some (.int (gI S 191 32)), some (.int (gI S 191 33)), none] [.int (r79 - (gI S 191 33))] (mk c S80) from ?_)
                      obtain rfl := some_e H
                      exact J.iret d_M_body_235 rfl rfl
                    · have H := ite_f H q75
                      by_cases q82 : (((4 : Int32) * x1) + x2) = (10 : Int32)
                      · have H := ite_t H q82
                        refine J.tsIn (off := 293) (tgt := 310) d_M_body_17 (by rw [q82]; decide) (by rw [q82]; decide) (by rw [q82]; rfl) rfl ?_
                        refine J.run b_M_body_310_2 k_M_body_310_2 rfl (show J w (d + 5) m_M_body (n0, z0, some (.int z.1), mk c z.2) 313 [some (.ref 191), some (.int x1), some (.int x2), some (.int x3), some (.int (gI S 191 32)), some (.int (gI S 191 33)), none] [.int (61 : Int32), .ref 191] (mk c S) from ?_)
                        obtain ⟨r83, S84, h85, H⟩ := bd_e H
                        refine J.callV (y := m_M_began) (av := [.int (61 : Int32)]) (rest := []) (q := 191) l_M_355 d_M_body_313 (isC_st rfl rfl) (c_M_began w (d + 3) c  S (61 : Int32) h85) rfl (Nat.le_of_ble_eq_true rfl) ⟨Nat.le_refl _, Nat.le_refl _⟩ (show J w (d + 5) m_M_body (n0, z0, some (.int z.1), mk c z.2) 316 [some (.ref 191), some (.int x1), some (.int x2), some (.int x3), some (.int (gI S 191 32)), some (.int (gI S 191 33)), none] [] (mk c S84) from ?_)
                        refine J.run b_M_body_316_4 k_M_body_316_4 rfl (show J w (d + 5) m_M_body (n0, z0, some (.int z.1), mk c z.2) 320 [some (.ref 191), some (.int x1), some (.int x2), some (.int x3), some (.int (gI S 191 32)), some (.int (gI S 191 33)), none] [.int x3, .int (2 : Int32), .int (4 : Int32), .ref 191] (mk c S84) from ?_)
                        obtain ⟨r86, S87, h88, H⟩ := bd_e H
                        refine J.callV (y := m_M_bodyFrom) (av := [.int (4 : Int32), .int (2 : Int32), .int x3]) (rest := []) (q := 191) l_M_342 d_M_body_320 (isC_st rfl rfl) (bf_ok (d + 4) (Nat.le_add_right _ _) S84 (4 : Int32) (2 : Int32) x3 _ h88) rfl (Nat.le_of_ble_eq_true rfl) ⟨Nat.le_refl _, Nat.le_refl _⟩ (show J w (d + 5) m_M_body (n0, z0, some (.int z.1), mk c z.2) 323 [some (.ref 191), some (.int x1), some (.int x2), some (.int x3), some (.int (gI S 191 32)), some (.int (gI S 191 33)), none] [.int r86] (mk c S87) from ?_)
                        refine J.run b_M_body_323_5 k_M_body_323_5 rfl (show J w (d + 5) m_M_body (n0, z0, some (.int z.1), mk c z.2) 331 [some (.ref 191), some (.int x1), some (.int x2), some (.int x3), some (.int (gI S 191 32)), some (.int (gI S 191 33)), some (.int r86)] [.int (gI S 191 32), .int (0 : Int32), .ref 191, .int r86] (mk c S87) from ?_)
                        obtain ⟨r89, S90, h91, H⟩ := bd_e H
                        refine J.callV (y := m_M_voiced) (av := [.int (0 : Int32), .int (gI S 191 32)]) (rest := [.int r86]) (q := 191) l_M_358 d_M_body_331 (isC_st rfl rfl) (c_M_voiced w (d + 0) c (fun D hD => bf_ok D (Nat.le_trans (Nat.le_add_right d 0) hD)) S87 (0 : Int32) (gI S 191 32) h91) rfl (Nat.le_of_ble_eq_true rfl) ⟨Nat.le_refl _, Nat.le_refl _⟩ (show J w (d + 5) m_M_body (n0, z0, some (.int z.1), mk c z.2) 334 [some (.ref 191), some (.int x1), some (.int x2), some (.int x3), some (.int (gI S 191 32)), some (.int (gI S 191 33)), some (.int r86)] [.int r89, .int r86] (mk c S90) from ?_)
                        refine J.run b_M_body_334_1 k_M_body_334_1 rfl (show J w (d + 5) m_M_body (n0, z0, some (.int z.1), mk c z.2) 335 [some (.ref 191), some (.int x1), some (.int x2), some (.int x3), some (.int (gI S 191 32)), some (.int (gI S 191 33)), some (.int r86)] [.int (r86 + r89)] (mk c S90) from ?_)
                        obtain rfl := some_e H
                        exact J.iret d_M_body_335 rfl rfl
                      · have H := ite_f H q82
                        by_cases q92 : (((4 : Int32) * x1) + x2) = (11 : Int32)
                        · have H := ite_t H q92
                          refine J.tsIn (off := 293) (tgt := 310) d_M_body_17 (by rw [q92]; decide) (by rw [q92]; decide) (by rw [q92]; rfl) rfl ?_
                          refine J.run b_M_body_310_2 k_M_body_310_2 rfl (show J w (d + 5) m_M_body (n0, z0, some (.int z.1), mk c z.2) 313 [some (.ref 191), some (.int x1), some (.int x2), some (.int x3), some (.int (gI S 191 32)), some (.int (gI S 191 33)), none] [.int (61 : Int32), .ref 191] (mk c S) from ?_)
                          obtain ⟨r93, S94, h95, H⟩ := bd_e H
                          refine J.callV (y := m_M_began) (av := [.int (61 : Int32)]) (rest := []) (q := 191) l_M_355 d_M_body_313 (isC_st rfl rfl) (c_M_began w (d + 3) c  S (61 : Int32) h95) rfl (Nat.le_of_ble_eq_true rfl) ⟨Nat.le_refl _, Nat.le_refl _⟩ (show J w (d + 5) m_M_body (n0, z0, some (.int z.1), mk c z.2) 316 [some (.ref 191), some (.int x1), some (.int x2), some (.int x3), some (.int (gI S 191 32)), some (.int (gI S 191 33)), none] [] (mk c S94) from ?_)
                          refine J.run b_M_body_316_4 k_M_body_316_4 rfl (show J w (d + 5) m_M_body (n0, z0, some (.int z.1), mk c z.2) 320 [some (.ref 191), some (.int x1), some (.int x2), some (.int x3), some (.int (gI S 191 32)), some (.int (gI S 191 33)), none] [.int x3, .int (2 : Int32), .int (4 : Int32), .ref 191] (mk c S94) from ?_)
                          obtain ⟨r96, S97, h98, H⟩ := bd_e H
                          refine J.callV (y := m_M_bodyFrom) (av := [.int (4 : Int32), .int (2 : Int32), .int x3]) (rest := []) (q := 191) l_M_342 d_M_body_320 (isC_st rfl rfl) (bf_ok (d + 4) (Nat.le_add_right _ _) S94 (4 : Int32) (2 : Int32) x3 _ h98) rfl (Nat.le_of_ble_eq_true rfl) ⟨Nat.le_refl _, Nat.le_refl _⟩ (show J w (d + 5) m_M_body (n0, z0, some (.int z.1), mk c z.2) 323 [some (.ref 191), some (.int x1), some (.int x2), some (.int x3), some (.int (gI S 191 32)), some (.int (gI S 191 33)), none] [.int r96] (mk c S97) from ?_)
                          refine J.run b_M_body_323_5 k_M_body_323_5 rfl (show J w (d + 5) m_M_body (n0, z0, some (.int z.1), mk c z.2) 331 [some (.ref 191), some (.int x1), some (.int x2), some (.int x3), some (.int (gI S 191 32)), some (.int (gI S 191 33)), some (.int r96)] [.int (gI S 191 32), .int (0 : Int32), .ref 191, .int r96] (mk c S97) from ?_)
                          obtain ⟨r99, S100, h101, H⟩ := bd_e H
                          refine J.callV (y := m_M_voiced) (av := [.int (0 : Int32), .int (gI S 191 32)]) (rest := [.int r96]) (q := 191) l_M_358 d_M_body_331 (isC_st rfl rfl) (c_M_voiced w (d + 0) c (fun D hD => bf_ok D (Nat.le_trans (Nat.le_add_right d 0) hD)) S97 (0 : Int32) (gI S 191 32) h101) rfl (Nat.le_of_ble_eq_true rfl) ⟨Nat.le_refl _, Nat.le_refl _⟩ (show J w (d + 5) m_M_body (n0, z0, some (.int z.1), mk c z.2) 334 [some (.ref 191), some (.int x1), some (.int x2), some (.int x3), some (.int (gI S 191 32)), some (.int (gI S 191 33)), some (.int r96)] [.int r99, .int r96] (mk c S100) from ?_)
                          refine J.run b_M_body_334_1 k_M_body_334_1 rfl (show J w (d + 5) m_M_body (n0, z0, some (.int z.1), mk c z.2) 335 [some (.ref 191), some (.int x1), some (.int x2), some (.int x3), some (.int (gI S 191 32)), some (.int (gI S 191 33)), some (.int r96)] [.int (r96 + r99)] (mk c S100) from ?_)
                          obtain rfl := some_e H
                          exact J.iret d_M_body_335 rfl rfl
                        · have H := ite_f H q92
                          by_cases q102 : (((4 : Int32) * x1) + x2) = (12 : Int32)
                          · have H := ite_t H q102
                            refine J.tsIn (off := 235) (tgt := 252) d_M_body_17 (by rw [q102]; decide) (by rw [q102]; decide) (by rw [q102]; rfl) rfl ?_
                            refine J.run b_M_body_252_2 k_M_body_252_2 rfl (show J w (d + 5) m_M_body (n0, z0, some (.int z.1), mk c z.2) 255 [some (.ref 191), some (.int x1), some (.int x2), some (.int x3), some (.int (gI S 191 32)), some (.int (gI S 191 33)), none] [.int (50 : Int32), .ref 191] (mk c S) from ?_)
                            obtain ⟨r103, S104, h105, H⟩ := bd_e H
                            refine J.callV (y := m_M_began) (av := [.int (50 : Int32)]) (rest := []) (q := 191) l_M_355 d_M_body_255 (isC_st rfl rfl) (c_M_began w (d + 3) c  S (50 : Int32) h105) rfl (Nat.le_of_ble_eq_true rfl) ⟨Nat.le_refl _, Nat.le_refl _⟩ (show J w (d + 5) m_M_body (n0, z0, some (.int z.1), mk c z.2) 258 [some (.ref 191), some (.int x1), some (.int x2), some (.int x3), some (.int (gI S 191 32)), some (.int (gI S 191 33)), none] [] (mk c S104) from ?_)
                            refine J.run b_M_body_258_4 k_M_body_258_4 rfl (show J w (d + 5) m_M_body (n0, z0, some (.int z.1), mk c z.2) 262 [some (.ref 191), some (.int x1), some (.int x2), some (.int x3), some (.int (gI S 191 32)), some (.int (gI S 191 33)), none] [.int x3, .int (0 : Int32), .int (2 : Int32), .ref 191] (mk c S104) from ?_)
                            obtain ⟨r106, S107, h108, H⟩ := bd_e H
                            refine J.callV (y := m_M_bodyFrom) (av := [.int (2 : Int32), .int (0 : Int32), .int x3]) (rest := []) (q := 191) l_M_342 d_M_body_262 (isC_st rfl rfl) (bf_ok (d + 4) (Nat.le_add_right _ _) S104 (2 : Int32) (0 : Int32) x3 _ h108) rfl (Nat.le_of_ble_eq_true rfl) ⟨Nat.le_refl _, Nat.le_refl _⟩ (show J w (d + 5) m_M_body (n0, z0, some (.int z.1), mk c z.2) 265 [some (.ref 191), some (.int x1), some (.int x2), some (.int x3), some (.int (gI S 191 32)), some (.int (gI S 191 33)), none] [.int r106] (mk c S107) from ?_)
                            refine J.run b_M_body_265_2 k_M_body_265_2 rfl (show J w (d + 5) m_M_body (n0, z0, some (.int z.1), mk c z.2) 268 [some (.ref 191), some (.int x1), some (.int x2), some (.int x3), some (.int (gI S 191 32)), some (.int (gI S 191 33)), none] [.int (r106 ^^^ (gI S 191 32))] (mk c S107) from ?_)
                            obtain rfl := some_e H
                            exact J.iret d_M_body_268 rfl rfl
                          · have H := ite_f H q102
                            by_cases q109 : (((4 : Int32) * x1) + x2) = (13 : Int32)
                            · have H := ite_t H q109
                              refine J.tsIn (off := 293) (tgt := 310) d_M_body_17 (by rw [q109]; decide) (by rw [q109]; decide) (by rw [q109]; rfl) rfl ?_
                              refine J.run b_M_body_310_2 k_M_body_310_2 rfl (show J w (d + 5) m_M_body (n0, z0, some (.int z.1), mk c z.2) 313 [some (.ref 191), some (.int x1), some (.int x2), some (.int x3), some (.int (gI S 191 32)), some (.int (gI S 191 33)), none] [.int (61 : Int32), .ref 191] (mk c S) from ?_)
                              obtain ⟨r110, S111, h112, H⟩ := bd_e H
                              refine J.callV (y := m_M_began) (av := [.int (61 : Int32)]) (rest := []) (q := 191) l_M_355 d_M_body_313 (isC_st rfl rfl) (c_M_began w (d + 3) c  S (61 : Int32) h112) rfl (Nat.le_of_ble_eq_true rfl) ⟨Nat.le_refl _, Nat.le_refl _⟩ (show J w (d + 5) m_M_body (n0, z0, some (.int z.1), mk c z.2) 316 [some (.ref 191), some (.int x1), some (.int x2), some (.int x3), some (.int (gI S 191 32)), some (.int (gI S 191 33)), none] [] (mk c S111) from ?_)
                              refine J.run b_M_body_316_4 k_M_body_316_4 rfl (show J w (d + 5) m_M_body (n0, z0, some (.int z.1), mk c z.2) 320 [some (.ref 191), some (.int x1), some (.int x2), some (.int x3), some (.int (gI S 191 32)), some (.int (gI S 191 33)), none] [.int x3, .int (2 : Int32), .int (4 : Int32), .ref 191] (mk c S111) from ?_)
                              obtain ⟨r113, S114, h115, H⟩ := bd_e H
                              refine J.callV (y := m_M_bodyFrom) (av := [.int (4 : Int32), .int (2 : Int32), .int x3]) (rest := []) (q := 191) l_M_342 d_M_body_320 (isC_st rfl rfl) (bf_ok (d + 4) (Nat.le_add_right _ _) S111 (4 : Int32) (2 : Int32) x3 _ h115) rfl (Nat.le_of_ble_eq_true rfl) ⟨Nat.le_refl _, Nat.le_refl _⟩ (show J w (d + 5) m_M_body (n0, z0, some (.int z.1), mk c z.2) 323 [some (.ref 191), some (.int x1), some (.int x2), some (.int x3), some (.int (gI S 191 32)), some (.int (gI S 191 33)), none] [.int r113] (mk c S114) from ?_)
                              refine J.run b_M_body_323_5 k_M_body_323_5 rfl (show J w (d + 5) m_M_body (n0, z0, some (.int z.1), mk c z.2) 331 [some (.ref 191), some (.int x1), some (.int x2), some (.int x3), some (.int (gI S 191 32)), some (.int (gI S 191 33)), some (.int r113)] [.int (gI S 191 32), .int (0 : Int32), .ref 191, .int r113] (mk c S114) from ?_)
                              obtain ⟨r116, S117, h118, H⟩ := bd_e H
                              refine J.callV (y := m_M_voiced) (av := [.int (0 : Int32), .int (gI S 191 32)]) (rest := [.int r113]) (q := 191) l_M_358 d_M_body_331 (isC_st rfl rfl) (c_M_voiced w (d + 0) c (fun D hD => bf_ok D (Nat.le_trans (Nat.le_add_right d 0) hD)) S114 (0 : Int32) (gI S 191 32) h118) rfl (Nat.le_of_ble_eq_true rfl) ⟨Nat.le_refl _, Nat.le_refl _⟩ (show J w (d + 5) m_M_body (n0, z0, some (.int z.1), mk c z.2) 334 [some (.ref 191), some (.int x1), some (.int x2), some (.int x3), some (.int (gI S 191 32)), some (.int (gI S 191 33)), some (.int r113)] [.int r116, .int r113] (mk c S117) from ?_)
                              refine J.run b_M_body_334_1 k_M_body_334_1 rfl (show J w (d + 5) m_M_body (n0, z0, some (.int z.1), mk c z.2) 335 [some (.ref 191), some (.int x1), some (.int x2), some (.int x3), some (.int (gI S 191 32)), some (.int (gI S 191 33)), some (.int r113)] [.int (r113 + r116)] (mk c S117) from ?_)
                              obtain rfl := some_e H
                              exact J.iret d_M_body_335 rfl rfl
                            · have H := ite_f H q109
                              by_cases q119 : (((4 : Int32) * x1) + x2) = (14 : Int32)
                              · have H := ite_t H q119
                                refine J.tsIn (off := 293) (tgt := 310) d_M_body_17 (by rw [q119]; decide) (by rw [q119]; decide) (by rw [q119]; rfl) rfl ?_
                                refine J.run b_M_body_310_2 k_M_body_310_2 rfl (show J w (d + 5) m_M_body (n0, z0, some (.int z.1), mk c z.2) 313 [some (.ref 191), some (.int x1), some (.int x2), some (.int x3), some (.int (gI S 191 32)), some (.int (gI S 191 33)), none] [.int (61 : Int32), .ref 191] (mk c S) from ?_)
                                obtain ⟨r120, S121, h122, H⟩ := bd_e H
                                refine J.callV (y := m_M_began) (av := [.int (61 : Int32)]) (rest := []) (q := 191) l_M_355 d_M_body_313 (isC_st rfl rfl) (c_M_began w (d + 3) c  S (61 : Int32) h122) rfl (Nat.le_of_ble_eq_true rfl) ⟨Nat.le_refl _, Nat.le_refl _⟩ (show J w (d + 5) m_M_body (n0, z0, some (.int z.1), mk c z.2) 316 [some (.ref 191), some (.int x1), some (.int x2), some (.int x3), some (.int (gI S 191 32)), some (.int (gI S 191 33)), none] [] (mk c S121) from ?_)
                                refine J.run b_M_body_316_4 k_M_body_316_4 rfl (show J w (d + 5) m_M_body (n0, z0, some (.int z.1), mk c z.2) 320 [some (.ref 191), some (.int x1), some (.int x2), some (.int x3), some (.int (gI S 191 32)), some (.int (gI S 191 33)), none] [.int x3, .int (2 : Int32), .int (4 : Int32), .ref 191] (mk c S121) from ?_)
                                obtain ⟨r123, S124, h125, H⟩ := bd_e H
                                refine J.callV (y := m_M_bodyFrom) (av := [.int (4 : Int32), .int (2 : Int32), .int x3]) (rest := []) (q := 191) l_M_342 d_M_body_320 (isC_st rfl rfl) (bf_ok (d + 4) (Nat.le_add_right _ _) S121 (4 : Int32) (2 : Int32) x3 _ h125) rfl (Nat.le_of_ble_eq_true rfl) ⟨Nat.le_refl _, Nat.le_refl _⟩ (show J w (d + 5) m_M_body (n0, z0, some (.int z.1), mk c z.2) 323 [some (.ref 191), some (.int x1), some (.int x2), some (.int x3), some (.int (gI S 191 32)), some (.int (gI S 191 33)), none] [.int r123] (mk c S124) from ?_)
                                refine J.run b_M_body_323_5 k_M_body_323_5 rfl (show J w (d + 5) m_M_body (n0, z0, some (.int z.1), mk c z.2) 331 [some (.ref 191), some (.int x1), some (.int x2), some (.int x3), some (.int (gI S 191 32)), some (.int (gI S 191 33)), some (.int r123)] [.int (gI S 191 32), .int (0 : Int32), .ref 191, .int r123] (mk c S124) from ?_)
                                obtain ⟨r126, S127, h128, H⟩ := bd_e H
                                refine J.callV (y := m_M_voiced) (av := [.int (0 : Int32), .int (gI S 191 32)]) (rest := [.int r123]) (q := 191) l_M_358 d_M_body_331 (isC_st rfl rfl) (c_M_voiced w (d + 0) c (fun D hD => bf_ok D (Nat.le_trans (Nat.le_add_right d 0) hD)) S124 (0 : Int32) (gI S 191 32) h128) rfl (Nat.le_of_ble_eq_true rfl) ⟨Nat.le_refl _, Nat.le_refl _⟩ (show J w (d + 5) m_M_body (n0, z0, some (.int z.1), mk c z.2) 334 [some (.ref 191), some (.int x1), some (.int x2), some (.int x3), some (.int (gI S 191 32)), some (.int (gI S 191 33)), some (.int r123)] [.int r126, .int r123] (mk c S127) from ?_)
                                refine J.run b_M_body_334_1 k_M_body_334_1 rfl (show J w (d + 5) m_M_body (n0, z0, some (.int z.1), mk c z.2) 335 [some (.ref 191), some (.int x1), some (.int x2), some (.int x3), some (.int (gI S 191 32)), some (.int (gI S 191 33)), some (.int r123)] [.int (r123 + r126)] (mk c S127) from ?_)
                                obtain rfl := some_e H
                                exact J.iret d_M_body_335 rfl rfl
                              · have H := ite_f H q119
                                by_cases q129 : (((4 : Int32) * x1) + x2) = (15 : Int32)
                                · have H := ite_t H q129
                                  refine J.tsIn (off := 252) (tgt := 269) d_M_body_17 (by rw [q129]; decide) (by rw [q129]; decide) (by rw [q129]; rfl) rfl ?_
                                  refine J.run b_M_body_269_2 k_M_body_269_2 rfl (show J w (d + 5) m_M_body (n0, z0, some (.int z.1), mk c z.2) 272 [some (.ref 191), some (.int x1), some (.int x2), some (.int x3), some (.int (gI S 191 32)), some (.int (gI S 191 33)), none] [.int (51 : Int32), .ref 191] (mk c S) from ?_)
                                  obtain ⟨r130, S131, h132, H⟩ := bd_e H
                                  refine J.callV (y := m_M_began) (av := [.int (51 : Int32)]) (rest := []) (q := 191) l_M_355 d_M_body_272 (isC_st rfl rfl) (c_M_began w (d + 3) c  S (51 : Int32) h132) rfl (Nat.le_of_ble_eq_true rfl) ⟨Nat.le_refl _, Nat.le_refl _⟩ (show J w (d + 5) m_M_body (n0, z0, some (.int z.1), mk c z.2) 275 [some (.ref 191), some (.int x1), some (.int x2), some (.int x3), some (.int (gI S 191 32)), some (.int (gI S 191 33)), none] [] (mk c S131) from ?_)
                                  refine J.run b_M_body_275_4 k_M_body_275_4 rfl (show J w (d + 5) m_M_body (n0, z0, some (.int z.1), mk c z.2) 279 [some (.ref 191), some (.int x1), some (.int x2), some (.int x3), some (.int (gI S 191 32)), some (.int (gI S 191 33)), none] [.int x3, .int (3 : Int32), .int (2 : Int32), .ref 191] (mk c S131) from ?_)
                                  obtain ⟨r133, S134, h135, H⟩ := bd_e H
                                  refine J.callV (y := m_M_bodyFrom) (av := [.int (2 : Int32), .int (3 : Int32), .int x3]) (rest := []) (q := 191) l_M_342 d_M_body_279 (isC_st rfl rfl) (bf_ok (d + 4) (Nat.le_add_right _ _) S131 (2 : Int32) (3 : Int32) x3 _ h135) rfl (Nat.le_of_ble_eq_true rfl) ⟨Nat.le_refl _, Nat.le_refl _⟩ (show J w (d + 5) m_M_body (n0, z0, some (.int z.1), mk c z.2) 282 [some (.ref 191), some (.int x1), some (.int x2), some (.int x3), some (.int (gI S 191 32)), some (.int (gI S 191 33)), none] [.int r133] (mk c S134) from ?_)
                                  refine J.run b_M_body_282_5 k_M_body_282_5 rfl (show J w (d + 5) m_M_body (n0, z0, some (.int z.1), mk c z.2) 290 [some (.ref 191), some (.int x1), some (.int x2), some (.int x3), some (.int (gI S 191 32)), some (.int (gI S 191 33)), some (.int r133)] [.int (gI S 191 32), .int (2 : Int32), .ref 191, .int r133] (mk c S134) from ?_)
                                  obtain ⟨r136, S137, h138, H⟩ := bd_e H
                                  refine J.callV (y := m_M_voiced) (av := [.int (2 : Int32), .int (gI S 191 32)]) (rest := [.int r133]) (q := 191) l_M_358 d_M_body_290 (isC_st rfl rfl) (c_M_voiced w (d + 0) c (fun D hD => bf_ok D (Nat.le_trans (Nat.le_add_right d 0) hD)) S134 (2 : Int32) (gI S 191 32) h138) rfl (Nat.le_of_ble_eq_true rfl) ⟨Nat.le_refl _, Nat.le_refl _⟩ (show J w (d + 5) m_M_body (n0, z0, some (.int z.1), mk c z.2) 293 [some (.ref 191), some (.int x1), some (.int x2), some (.int x3), some (.int (gI S 191 32)), some (.int (gI S 191 33)), some (.int r133)] [.int r136, .int r133] (mk c S137) from ?_)
                                  refine J.run b_M_body_293_1 k_M_body_293_1 rfl (show J w (d + 5) m_M_body (n0, z0, some (.int z.1), mk c z.2) 294 [some (.ref 191), some (.int x1), some (.int x2), some (.int x3), some (.int (gI S 191 32)), some (.int (gI S 191 33)), some (.int r133)] [.int (r133 + r136)] (mk c S137) from ?_)
                                  obtain rfl := some_e H
                                  exact J.iret d_M_body_294 rfl rfl
                                · have H := ite_f H q129
                                  by_cases q139 : (((4 : Int32) * x1) + x2) = (16 : Int32)
                                  · have H := ite_t H q139
                                    refine J.tsIn (off := 293) (tgt := 310) d_M_body_17 (by rw [q139]; decide) (by rw [q139]; decide) (by rw [q139]; rfl) rfl ?_
                                    refine J.run b_M_body_310_2 k_M_body_310_2 rfl (show J w (d + 5) m_M_body (n0, z0, some (.int z.1), mk c z.2) 313 [some (.ref 191), some (.int x1), some (.int x2), some (.int x3), some (.int (gI S 191 32)), some (.int (gI S 191 33)), none] [.int (61 : Int32), .ref 191] (mk c S) from ?_)
                                    obtain ⟨r140, S141, h142, H⟩ := bd_e H
                                    refine J.callV (y := m_M_began) (av := [.int (61 : Int32)]) (rest := []) (q := 191) l_M_355 d_M_body_313 (isC_st rfl rfl) (c_M_began w (d + 3) c  S (61 : Int32) h142) rfl (Nat.le_of_ble_eq_true rfl) ⟨Nat.le_refl _, Nat.le_refl _⟩ (show J w (d + 5) m_M_body (n0, z0, some (.int z.1), mk c z.2) 316 [some (.ref 191), some (.int x1), some (.int x2), some (.int x3), some (.int (gI S 191 32)), some (.int (gI S 191 33)), none] [] (mk c S141) from ?_)
                                    refine J.run b_M_body_316_4 k_M_body_316_4 rfl (show J w (d + 5) m_M_body (n0, z0, some (.int z.1), mk c z.2) 320 [some (.ref 191), some (.int x1), some (.int x2), some (.int x3), some (.int (gI S 191 32)), some (.int (gI S 191 33)), none] [.int x3, .int (2 : Int32), .int (4 : Int32), .ref 191] (mk c S141) from ?_)
                                    obtain ⟨r143, S144, h145, H⟩ := bd_e H
                                    refine J.callV (y := m_M_bodyFrom) (av := [.int (4 : Int32), .int (2 : Int32), .int x3]) (rest := []) (q := 191) l_M_342 d_M_body_320 (isC_st rfl rfl) (bf_ok (d + 4) (Nat.le_add_right _ _) S141 (4 : Int32) (2 : Int32) x3 _ h145) rfl (Nat.le_of_ble_eq_true rfl) ⟨Nat.le_refl _, Nat.le_refl _⟩ (show J w (d + 5) m_M_body (n0, z0, some (.int z.1), mk c z.2) 323 [some (.ref 191), some (.int x1), some (.int x2), some (.int x3), some (.int (gI S 191 32)), some (.int (gI S 191 33)), none] [.int r143] (mk c S144) from ?_)
                                    refine J.run b_M_body_323_5 k_M_body_323_5 rfl (show J w (d + 5) m_M_body (n0, z0, some (.int z.1), mk c z.2) 331 [some (.ref 191), some (.int x1), some (.int x2), some (.int x3), some (.int (gI S 191 32)), some (.int (gI S 191 33)), some (.int r143)] [.int (gI S 191 32), .int (0 : Int32), .ref 191, .int r143] (mk c S144) from ?_)
                                    obtain ⟨r146, S147, h148, H⟩ := bd_e H
                                    refine J.callV (y := m_M_voiced) (av := [.int (0 : Int32), .int (gI S 191 32)]) (rest := [.int r143]) (q := 191) l_M_358 d_M_body_331 (isC_st rfl rfl) (c_M_voiced w (d + 0) c (fun D hD => bf_ok D (Nat.le_trans (Nat.le_add_right d 0) hD)) S144 (0 : Int32) (gI S 191 32) h148) rfl (Nat.le_of_ble_eq_true rfl) ⟨Nat.le_refl _, Nat.le_refl _⟩ (show J w (d + 5) m_M_body (n0, z0, some (.int z.1), mk c z.2) 334 [some (.ref 191), some (.int x1), some (.int x2), some (.int x3), some (.int (gI S 191 32)), some (.int (gI S 191 33)), some (.int r143)] [.int r146, .int r143] (mk c S147) from ?_)
                                    refine J.run b_M_body_334_1 k_M_body_334_1 rfl (show J w (d + 5) m_M_body (n0, z0, some (.int z.1), mk c z.2) 335 [some (.ref 191), some (.int x1), some (.int x2), some (.int x3), some (.int (gI S 191 32)), some (.int (gI S 191 33)), some (.int r143)] [.int (r143 + r146)] (mk c S147) from ?_)
                                    obtain rfl := some_e H
                                    exact J.iret d_M_body_335 rfl rfl
                                  · have H := ite_f H q139
                                    by_cases q149 : (((4 : Int32) * x1) + x2) = (17 : Int32)
                                    · have H := ite_t H q149
                                      refine J.tsIn (off := 293) (tgt := 310) d_M_body_17 (by rw [q149]; decide) (by rw [q149]; decide) (by rw [q149]; rfl) rfl ?_
                                      refine J.run b_M_body_310_2 k_M_body_310_2 rfl (show J w (d + 5) m_M_body (n0, z0, some (.int z.1), mk c z.2) 313 [some (.ref 191), some (.int x1), some (.int x2), some (.int x3), some (.int (gI S 191 32)), some (.int (gI S 191 33)), none] [.int (61 : Int32), .ref 191] (mk c S) from ?_)
                                      obtain ⟨r150, S151, h152, H⟩ := bd_e H
                                      refine J.callV (y := m_M_began) (av := [.int (61 : Int32)]) (rest := []) (q := 191) l_M_355 d_M_body_313 (isC_st rfl rfl) (c_M_began w (d + 3) c  S (61 : Int32) h152) rfl (Nat.le_of_ble_eq_true rfl) ⟨Nat.le_refl _, Nat.le_refl _⟩ (show J w (d + 5) m_M_body (n0, z0, some (.int z.1), mk c z.2) 316 [some (.ref 191), some (.int x1), some (.int x2), some (.int x3), some (.int (gI S 191 32)), some (.int (gI S 191 33)), none] [] (mk c S151) from ?_)
                                      refine J.run b_M_body_316_4 k_M_body_316_4 rfl (show J w (d + 5) m_M_body (n0, z0, some (.int z.1), mk c z.2) 320 [some (.ref 191), some (.int x1), some (.int x2), some (.int x3), some (.int (gI S 191 32)), some (.int (gI S 191 33)), none] [.int x3, .int (2 : Int32), .int (4 : Int32), .ref 191] (mk c S151) from ?_)
                                      obtain ⟨r153, S154, h155, H⟩ := bd_e H
                                      refine J.callV (y := m_M_bodyFrom) (av := [.int (4 : Int32), .int (2 : Int32), .int x3]) (rest := []) (q := 191) l_M_342 d_M_body_320 (isC_st rfl rfl) (bf_ok (d + 4) (Nat.le_add_right _ _) S151 (4 : Int32) (2 : Int32) x3 _ h155) rfl (Nat.le_of_ble_eq_true rfl) ⟨Nat.le_refl _, Nat.le_refl _⟩ (show J w (d + 5) m_M_body (n0, z0, some (.int z.1), mk c z.2) 323 [some (.ref 191), some (.int x1), some (.int x2), some (.int x3), some (.int (gI S 191 32)), some (.int (gI S 191 33)), none] [.int r153] (mk c S154) from ?_)
                                      refine J.run b_M_body_323_5 k_M_body_323_5 rfl (show J w (d + 5) m_M_body (n0, z0, some (.int z.1), mk c z.2) 331 [some (.ref 191), some (.int x1), some (.int x2), some (.int x3), some (.int (gI S 191 32)), some (.int (gI S 191 33)), some (.int r153)] [.int (gI S 191 32), .int (0 : Int32), .ref 191, .int r153] (mk c S154) from ?_)
                                      obtain ⟨r156, S157, h158, H⟩ := bd_e H
                                      refine J.callV (y := m_M_voiced) (av := [.int (0 : Int32), .int (gI S 191 32)]) (rest := [.int r153]) (q := 191) l_M_358 d_M_body_331 (isC_st rfl rfl) (c_M_voiced w (d + 0) c (fun D hD => bf_ok D (Nat.le_trans (Nat.le_add_right d 0) hD)) S154 (0 : Int32) (gI S 191 32) h158) rfl (Nat.le_of_ble_eq_true rfl) ⟨Nat.le_refl _, Nat.le_refl _⟩ (show J w (d + 5) m_M_body (n0, z0, some (.int z.1), mk c z.2) 334 [some (.ref 191), some (.int x1), some (.int x2), some (.int x3), some (.int (gI S 191 32)), some (.int (gI S 191 33)), some (.int r153)] [.int r156, .int r153] (mk c S157) from ?_)
                                      refine J.run b_M_body_334_1 k_M_body_334_1 rfl (show J w (d + 5) m_M_body (n0, z0, some (.int z.1), mk c z.2) 335 [some (.ref 191), some (.int x1), some (.int x2), some (.int x3), some (.int (gI S 191 32)), some (.int (gI S 191 33)), some (.int r153)] [.int (r153 + r156)] (mk c S157) from ?_)
                                      obtain rfl := some_e H
                                      exact J.iret d_M_body_335 rfl rfl
                                    · have H := ite_f H q149
                                      by_cases q159 : (((4 : Int32) * x1) + x2) = (18 : Int32)
                                      · have H := ite_t H q159
                                        refine J.tsIn (off := 219) (tgt := 236) d_M_body_17 (by rw [q159]; decide) (by rw [q159]; decide) (by rw [q159]; rfl) rfl ?_
                                        refine J.run b_M_body_236_2 k_M_body_236_2 rfl (show J w (d + 5) m_M_body (n0, z0, some (.int z.1), mk c z.2) 239 [some (.ref 191), some (.int x1), some (.int x2), some (.int x3), some (.int (gI S 191 32)), some (.int (gI S 191 33)), none] [.int (40 : Int32), .ref 191] (mk c S) from ?_)
                                        obtain ⟨r160, S161, h162, H⟩ := bd_e H
                                        refine J.callV (y := m_M_began) (av := [.int (40 : Int32)]) (rest := []) (q := 191) l_M_355 d_M_body_239 (isC_st rfl rfl) (c_M_began w (d + 3) c  S (40 : Int32) h162) rfl (Nat.le_of_ble_eq_true rfl) ⟨Nat.le_refl _, Nat.le_refl _⟩ (show J w (d + 5) m_M_body (n0, z0, some (.int z.1), mk c z.2) 242 [some (.ref 191), some (.int x1), some (.int x2), some (.int x3), some (.int (gI S 191 32)), some (.int (gI S 191 33)), none] [] (mk c S161) from ?_)
                                        refine J.run b_M_body_242_6 k_M_body_242_6 rfl (show J w (d + 5) m_M_body (n0, z0, some (.int z.1), mk c z.2) 248 [some (.ref 191), some (.int x1), some (.int x2), some (.int x3), some (.int (gI S 191 32)), some (.int (gI S 191 33)), none] [.int (x3 + (1 : Int32)), .int (2 : Int32), .int (0 : Int32), .ref 191] (mk c S161) from ?_)
                                        obtain ⟨r163, S164, h165, H⟩ := bd_e H
                                        refine J.callV (y := m_M_bodyFrom) (av := [.int (0 : Int32), .int (2 : Int32), .int (x3 + (1 : Int32))]) (rest := []) (q := 191) l_M_342 d_M_body_248 (isC_st rfl rfl) (bf_ok (d + 4) (Nat.le_add_right _ _) S161 (0 : Int32) (2 : Int32) (x3 + (1 : Int32)) _ h165) rfl (Nat.le_of_ble_eq_true rfl) ⟨Nat.le_refl _, Nat.le_refl _⟩ (show J w (d + 5) m_M_body (n0, z0, some (.int z.1), mk c z.2) 251 [some (.ref 191), some (.int x1), some (.int x2), some (.int x3), some (.int (gI S 191 32)), some (.int (gI S 191 33)), none] [.int r163] (mk c S164) from ?_)
                                        obtain rfl := some_e H
                                        exact J.iret d_M_body_251 rfl rfl
                                      · have H := ite_f H q159
                                        by_cases q166 : (((4 : Int32) * x1) + x2) = (19 : Int32)
                                        · have H := ite_t H q166
                                          refine J.tsIn (off := 293) (tgt := 310) d_M_body_17 (by rw [q166]; decide) (by rw [q166]; decide) (by rw [q166]; rfl) rfl ?_
                                          refine J.run b_M_body_310_2 k_M_body_310_2 rfl (show J w (d + 5) m_M_body (n0, z0, some (.int z.1), mk c z.2) 313 [some (.ref 191), some (.int x1), some (.int x2), some (.int x3), some (.int (gI S 191 32)), some (.int (gI S 191 33)), none] [.int (61 : Int32), .ref 191] (mk c S) from ?_)
                                          obtain ⟨r167, S168, h169, H⟩ := bd_e H
                                          refine J.callV (y := m_M_began) (av := [.int (61 : Int32)]) (rest := []) (q := 191) l_M_355 d_M_body_313 (isC_st rfl rfl) (c_M_began w (d + 3) c  S (61 : Int32) h169) rfl (Nat.le_of_ble_eq_true rfl) ⟨Nat.le_refl _, Nat.le_refl _⟩ (show J w (d + 5) m_M_body (n0, z0, some (.int z.1), mk c z.2) 316 [some (.ref 191), some (.int x1), some (.int x2), some (.int x3), some (.int (gI S 191 32)), some (.int (gI S 191 33)), none] [] (mk c S168) from ?_)
                                          refine J.run b_M_body_316_4 k_M_body_316_4 rfl (show J w (d + 5) m_M_body (n0, z0, some (.int z.1), mk c z.2) 320 [some (.ref 191), some (.int x1), some (.int x2), some (.int x3), some (.int (gI S 191 32)), some (.int (gI S 191 33)), none] [.int x3, .int (2 : Int32), .int (4 : Int32), .ref 191] (mk c S168) from ?_)
                                          obtain ⟨r170, S171, h172, H⟩ := bd_e H
                                          refine J.callV (y := m_M_bodyFrom) (av := [.int (4 : Int32), .int (2 : Int32), .int x3]) (rest := []) (q := 191) l_M_342 d_M_body_320 (isC_st rfl rfl) (bf_ok (d + 4) (Nat.le_add_right _ _) S168 (4 : Int32) (2 : Int32) x3 _ h172) rfl (Nat.le_of_ble_eq_true rfl) ⟨Nat.le_refl _, Nat.le_refl _⟩ (show J w (d + 5) m_M_body (n0, z0, some (.int z.1), mk c z.2) 323 [some (.ref 191), some (.int x1), some (.int x2), some (.int x3), some (.int (gI S 191 32)), some (.int (gI S 191 33)), none] [.int r170] (mk c S171) from ?_)
                                          refine J.run b_M_body_323_5 k_M_body_323_5 rfl (show J w (d + 5) m_M_body (n0, z0, some (.int z.1), mk c z.2) 331 [some (.ref 191), some (.int x1), some (.int x2), some (.int x3), some (.int (gI S 191 32)), some (.int (gI S 191 33)), some (.int r170)] [.int (gI S 191 32), .int (0 : Int32), .ref 191, .int r170] (mk c S171) from ?_)
                                          obtain ⟨r173, S174, h175, H⟩ := bd_e H
                                          refine J.callV (y := m_M_voiced) (av := [.int (0 : Int32), .int (gI S 191 32)]) (rest := [.int r170]) (q := 191) l_M_358 d_M_body_331 (isC_st rfl rfl) (c_M_voiced w (d + 0) c (fun D hD => bf_ok D (Nat.le_trans (Nat.le_add_right d 0) hD)) S171 (0 : Int32) (gI S 191 32) h175) rfl (Nat.le_of_ble_eq_true rfl) ⟨Nat.le_refl _, Nat.le_refl _⟩ (show J w (d + 5) m_M_body (n0, z0, some (.int z.1), mk c z.2) 334 [some (.ref 191), some (.int x1), some (.int x2), some (.int x3), some (.int (gI S 191 32)), some (.int (gI S 191 33)), some (.int r170)] [.int r173, .int r170] (mk c S174) from ?_)
                                          refine J.run b_M_body_334_1 k_M_body_334_1 rfl (show J w (d + 5) m_M_body (n0, z0, some (.int z.1), mk c z.2) 335 [some (.ref 191), some (.int x1), some (.int x2), some (.int x3), some (.int (gI S 191 32)), some (.int (gI S 191 33)), some (.int r170)] [.int (r170 + r173)] (mk c S174) from ?_)
                                          obtain rfl := some_e H
                                          exact J.iret d_M_body_335 rfl rfl
                                        · have H := ite_f H q166
                                          by_cases q176 : (((4 : Int32) * x1) + x2) = (20 : Int32)
                                          · have H := ite_t H q176
                                            refine J.tsIn (off := 293) (tgt := 310) d_M_body_17 (by rw [q176]; decide) (by rw [q176]; decide) (by rw [q176]; rfl) rfl ?_
                                            refine J.run b_M_body_310_2 k_M_body_310_2 rfl (show J w (d + 5) m_M_body (n0, z0, some (.int z.1), mk c z.2) 313 [some (.ref 191), some (.int x1), some (.int x2), some (.int x3), some (.int (gI S 191 32)), some (.int (gI S 191 33)), none] [.int (61 : Int32), .ref 191] (mk c S) from ?_)
                                            obtain ⟨r177, S178, h179, H⟩ := bd_e H
                                            refine J.callV (y := m_M_began) (av := [.int (61 : Int32)]) (rest := []) (q := 191) l_M_355 d_M_body_313 (isC_st rfl rfl) (c_M_began w (d + 3) c  S (61 : Int32) h179) rfl (Nat.le_of_ble_eq_true rfl) ⟨Nat.le_refl _, Nat.le_refl _⟩ (show J w (d + 5) m_M_body (n0, z0, some (.int z.1), mk c z.2) 316 [some (.ref 191), some (.int x1), some (.int x2), some (.int x3), some (.int (gI S 191 32)), some (.int (gI S 191 33)), none] [] (mk c S178) from ?_)
                                            refine J.run b_M_body_316_4 k_M_body_316_4 rfl (show J w (d + 5) m_M_body (n0, z0, some (.int z.1), mk c z.2) 320 [some (.ref 191), some (.int x1), some (.int x2), some (.int x3), some (.int (gI S 191 32)), some (.int (gI S 191 33)), none] [.int x3, .int (2 : Int32), .int (4 : Int32), .ref 191] (mk c S178) from ?_)
                                            obtain ⟨r180, S181, h182, H⟩ := bd_e H
                                            refine J.callV (y := m_M_bodyFrom) (av := [.int (4 : Int32), .int (2 : Int32), .int x3]) (rest := []) (q := 191) l_M_342 d_M_body_320 (isC_st rfl rfl) (bf_ok (d + 4) (Nat.le_add_right _ _) S178 (4 : Int32) (2 : Int32) x3 _ h182) rfl (Nat.le_of_ble_eq_true rfl) ⟨Nat.le_refl _, Nat.le_refl _⟩ (show J w (d + 5) m_M_body (n0, z0, some (.int z.1), mk c z.2) 323 [some (.ref 191), some (.int x1), some (.int x2), some (.int x3), some (.int (gI S 191 32)), some (.int (gI S 191 33)), none] [.int r180] (mk c S181) from ?_)
                                            refine J.run b_M_body_323_5 k_M_body_323_5 rfl (show J w (d + 5) m_M_body (n0, z0, some (.int z.1), mk c z.2) 331 [some (.ref 191), some (.int x1), some (.int x2), some (.int x3), some (.int (gI S 191 32)), some (.int (gI S 191 33)), some (.int r180)] [.int (gI S 191 32), .int (0 : Int32), .ref 191, .int r180] (mk c S181) from ?_)
                                            obtain ⟨r183, S184, h185, H⟩ := bd_e H
                                            refine J.callV (y := m_M_voiced) (av := [.int (0 : Int32), .int (gI S 191 32)]) (rest := [.int r180]) (q := 191) l_M_358 d_M_body_331 (isC_st rfl rfl) (c_M_voiced w (d + 0) c (fun D hD => bf_ok D (Nat.le_trans (Nat.le_add_right d 0) hD)) S181 (0 : Int32) (gI S 191 32) h185) rfl (Nat.le_of_ble_eq_true rfl) ⟨Nat.le_refl _, Nat.le_refl _⟩ (show J w (d + 5) m_M_body (n0, z0, some (.int z.1), mk c z.2) 334 [some (.ref 191), some (.int x1), some (.int x2), some (.int x3), some (.int (gI S 191 32)), some (.int (gI S 191 33)), some (.int r180)] [.int r183, .int r180] (mk c S184) from ?_)
                                            refine J.run b_M_body_334_1 k_M_body_334_1 rfl (show J w (d + 5) m_M_body (n0, z0, some (.int z.1), mk c z.2) 335 [some (.ref 191), some (.int x1), some (.int x2), some (.int x3), some (.int (gI S 191 32)), some (.int (gI S 191 33)), some (.int r180)] [.int (r180 + r183)] (mk c S184) from ?_)
                                            obtain rfl := some_e H
                                            exact J.iret d_M_body_335 rfl rfl
                                          · have H := ite_f H q176
                                            by_cases q186 : (((4 : Int32) * x1) + x2) = (21 : Int32)
                                            · have H := ite_t H q186
                                              refine J.tsIn (off := 278) (tgt := 295) d_M_body_17 (by rw [q186]; decide) (by rw [q186]; decide) (by rw [q186]; rfl) rfl ?_
                                              refine J.run b_M_body_295_2 k_M_body_295_2 rfl (show J w (d + 5) m_M_body (n0, z0, some (.int z.1), mk c z.2) 298 [some (.ref 191), some (.int x1), some (.int x2), some (.int x3), some (.int (gI S 191 32)), some (.int (gI S 191 33)), none] [.int (60 : Int32), .ref 191] (mk c S) from ?_)
                                              obtain ⟨r187, S188, h189, H⟩ := bd_e H
                                              refine J.callV (y := m_M_began) (av := [.int (60 : Int32)]) (rest := []) (q := 191) l_M_355 d_M_body_298 (isC_st rfl rfl) (c_M_began w (d + 3) c  S (60 : Int32) h189) rfl (Nat.le_of_ble_eq_true rfl) ⟨Nat.le_refl _, Nat.le_refl _⟩ (show J w (d + 5) m_M_body (n0, z0, some (.int z.1), mk c z.2) 301 [some (.ref 191), some (.int x1), some (.int x2), some (.int x3), some (.int (gI S 191 32)), some (.int (gI S 191 33)), none] [] (mk c S188) from ?_)
                                              refine J.run b_M_body_301_4 k_M_body_301_4 rfl (show J w (d + 5) m_M_body (n0, z0, some (.int z.1), mk c z.2) 305 [some (.ref 191), some (.int x1), some (.int x2), some (.int x3), some (.int (gI S 191 32)), some (.int (gI S 191 33)), none] [.int x3, .int (1 : Int32), .int (4 : Int32), .ref 191] (mk c S188) from ?_)
                                              obtain ⟨r190, S191, h192, H⟩ := bd_e H
                                              refine J.callV (y := m_M_bodyFrom) (av := [.int (4 : Int32), .int (1 : Int32), .int x3]) (rest := []) (q := 191) l_M_342 d_M_body_305 (isC_st rfl rfl) (bf_ok (d + 4) (Nat.le_add_right _ _) S188 (4 : Int32) (1 : Int32) x3 _ h192) rfl (Nat.le_of_ble_eq_true rfl) ⟨Nat.le_refl _, Nat.le_refl _⟩ (show J w (d + 5) m_M_body (n0, z0, some (.int z.1), mk c z.2) 308 [some (.ref 191), some (.int x1), some (.int x2), some (.int x3), some (.int (gI S 191 32)), some (.int (gI S 191 33)), none] [.int r190] (mk c S191) from ?_)
                                              refine J.run b_M_body_308_1 k_M_body_308_1 rfl (show J w (d + 5) m_M_body (n0, z0, some (.int z.1), mk c z.2) 309 [some (.ref 191), some (.int x1), some (.int x2), some (.int x3), some (.int (gI S 191 32)), some (.int (gI S 191 33)), none] [.int (-r190)] (mk c S191) from ?_)
                                              obtain rfl := some_e H
                                              exact J.iret d_M_body_309 rfl rfl
                                            · have H := ite_f H q186
                                              refine J.tsOut (tgt := 310) d_M_body_17 (tsO fun k h1 h2 => ?_) rfl ?_
                                              · rcases (show k = 0 ∨ k = 1 ∨ k = 2 ∨ k = 3 ∨ k = 4 ∨ k = 5 ∨ k = 6 ∨ k = 7 ∨ k = 8 ∨ k = 9 ∨ k = 10 ∨ k = 11 ∨ k = 12 ∨ k = 13 ∨ k = 14 ∨ k = 15 ∨ k = 16 ∨ k = 17 ∨ k = 18 ∨ k = 19 ∨ k = 20 ∨ k = 21 by omega) with rfl | rfl | rfl | rfl | rfl | rfl | rfl | rfl | rfl | rfl | rfl | rfl | rfl | rfl | rfl | rfl | rfl | rfl | rfl | rfl | rfl | rfl
                                                · exact lv_neT q1 rfl
                                                · exact lv_neT q5 rfl
                                                · exact lv_neT q12 rfl
                                                · exact lv_neT q21 rfl
                                                · exact lv_neT q28 rfl
                                                · exact lv_neT q35 rfl
                                                · exact lv_neT q45 rfl
                                                · exact lv_neT q55 rfl
                                                · exact lv_neT q65 rfl
                                                · exact lv_neT q75 rfl
                                                · exact lv_neT q82 rfl
                                                · exact lv_neT q92 rfl
                                                · exact lv_neT q102 rfl
                                                · exact lv_neT q109 rfl
                                                · exact lv_neT q119 rfl
                                                · exact lv_neT q129 rfl
                                                · exact lv_neT q139 rfl
                                                · exact lv_neT q149 rfl
                                                · exact lv_neT q159 rfl
                                                · exact lv_neT q166 rfl
                                                · exact lv_neT q176 rfl
                                                · exact lv_neT q186 rfl
                                              · refine J.run b_M_body_310_2 k_M_body_310_2 rfl (show J w (d + 5) m_M_body (n0, z0, some (.int z.1), mk c z.2) 313 [some (.ref 191), some (.int x1), some (.int x2), some (.int x3), some (.int (gI S 191 32)), some (.int (gI S 191 33)), none] [.int (61 : Int32), .ref 191] (mk c S) from ?_)
                                                obtain ⟨r193, S194, h195, H⟩ := bd_e H
                                                refine J.callV (y := m_M_began) (av := [.int (61 : Int32)]) (rest := []) (q := 191) l_M_355 d_M_body_313 (isC_st rfl rfl) (c_M_began w (d + 3) c  S (61 : Int32) h195) rfl (Nat.le_of_ble_eq_true rfl) ⟨Nat.le_refl _, Nat.le_refl _⟩ (show J w (d + 5) m_M_body (n0, z0, some (.int z.1), mk c z.2) 316 [some (.ref 191), some (.int x1), some (.int x2), some (.int x3), some (.int (gI S 191 32)), some (.int (gI S 191 33)), none] [] (mk c S194) from ?_)
                                                refine J.run b_M_body_316_4 k_M_body_316_4 rfl (show J w (d + 5) m_M_body (n0, z0, some (.int z.1), mk c z.2) 320 [some (.ref 191), some (.int x1), some (.int x2), some (.int x3), some (.int (gI S 191 32)), some (.int (gI S 191 33)), none] [.int x3, .int (2 : Int32), .int (4 : Int32), .ref 191] (mk c S194) from ?_)
                                                obtain ⟨r196, S197, h198, H⟩ := bd_e H
                                                refine J.callV (y := m_M_bodyFrom) (av := [.int (4 : Int32), .int (2 : Int32), .int x3]) (rest := []) (q := 191) l_M_342 d_M_body_320 (isC_st rfl rfl) (bf_ok (d + 4) (Nat.le_add_right _ _) S194 (4 : Int32) (2 : Int32) x3 _ h198) rfl (Nat.le_of_ble_eq_true rfl) ⟨Nat.le_refl _, Nat.le_refl _⟩ (show J w (d + 5) m_M_body (n0, z0, some (.int z.1), mk c z.2) 323 [some (.ref 191), some (.int x1), some (.int x2), some (.int x3), some (.int (gI S 191 32)), some (.int (gI S 191 33)), none] [.int r196] (mk c S197) from ?_)
                                                refine J.run b_M_body_323_5 k_M_body_323_5 rfl (show J w (d + 5) m_M_body (n0, z0, some (.int z.1), mk c z.2) 331 [some (.ref 191), some (.int x1), some (.int x2), some (.int x3), some (.int (gI S 191 32)), some (.int (gI S 191 33)), some (.int r196)] [.int (gI S 191 32), .int (0 : Int32), .ref 191, .int r196] (mk c S197) from ?_)
                                                obtain ⟨r199, S200, h201, H⟩ := bd_e H
                                                refine J.callV (y := m_M_voiced) (av := [.int (0 : Int32), .int (gI S 191 32)]) (rest := [.int r196]) (q := 191) l_M_358 d_M_body_331 (isC_st rfl rfl) (c_M_voiced w (d + 0) c (fun D hD => bf_ok D (Nat.le_trans (Nat.le_add_right d 0) hD)) S197 (0 : Int32) (gI S 191 32) h201) rfl (Nat.le_of_ble_eq_true rfl) ⟨Nat.le_refl _, Nat.le_refl _⟩ (show J w (d + 5) m_M_body (n0, z0, some (.int z.1), mk c z.2) 334 [some (.ref 191), some (.int x1), some (.int x2), some (.int x3), some (.int (gI S 191 32)), some (.int (gI S 191 33)), some (.int r196)] [.int r199, .int r196] (mk c S200) from ?_)
                                                refine J.run b_M_body_334_1 k_M_body_334_1 rfl (show J w (d + 5) m_M_body (n0, z0, some (.int z.1), mk c z.2) 335 [some (.ref 191), some (.int x1), some (.int x2), some (.int x3), some (.int (gI S 191 32)), some (.int (gI S 191 33)), some (.int r196)] [.int (r196 + r199)] (mk c S200) from ?_)
                                                obtain rfl := some_e H
                                                exact J.iret d_M_body_335 rfl rfl
def b_M_bodyFrom_0_2 : List Ins := [(.iload_n 1, 0, 0, 0), (.istore 4, 0, 0, 0)]
theorem k_M_bodyFrom_0_2 : bok m_M_bodyFrom 0 b_M_bodyFrom_0_2 = true := by decide +kernel
def b_M_bodyFrom_3_2 : List Ins := [(.iload 4, 0, 0, 0), (.iload_n 2, 0, 0, 0)]
theorem k_M_bodyFrom_3_2 : bok m_M_bodyFrom 3 b_M_bodyFrom_3_2 = true := by decide +kernel
def b_M_bodyFrom_12_1 : List Ins := [(.iload 4, 0, 0, 0)]
theorem k_M_bodyFrom_12_1 : bok m_M_bodyFrom 12 b_M_bodyFrom_12_1 = true := by decide +kernel
def b_M_bodyFrom_17_1 : List Ins := [(.istore 4, 0, 0, 0)]
theorem k_M_bodyFrom_17_1 : bok m_M_bodyFrom 17 b_M_bodyFrom_17_1 = true := by decide +kernel
def b_M_bodyFrom_22_2 : List Ins := [(.aload_n 0, 0, 0, 0), (.getfield 349, 11, 34, 0)]
theorem k_M_bodyFrom_22_2 : bok m_M_bodyFrom 22 b_M_bodyFrom_22_2 = true := by decide +kernel
def b_M_bodyFrom_33_4 : List Ins := [(.aload_n 0, 0, 0, 0), (.iload 4, 0, 0, 0), (.iload_n 2, 0, 0, 0), (.iload_n 3, 0, 0, 0)]
theorem k_M_bodyFrom_33_4 : bok m_M_bodyFrom 33 b_M_bodyFrom_33_4 = true := by decide +kernel
def b_M_bodyFrom_29_1 : List Ins := [(.iconst (0), 0, 0, 0)]
theorem k_M_bodyFrom_29_1 : bok m_M_bodyFrom 29 b_M_bodyFrom_29_1 = true := by decide +kernel
theorem d_M_bodyFrom_6 : decode m_M_bodyFrom.2.1 6 = .ok (.invokestatic 346, 3) := by decide +kernel
theorem d_M_bodyFrom_9 : decode m_M_bodyFrom.2.1 9 = .ok (.ifCond .ne (13), 3) := by decide +kernel
theorem d_M_bodyFrom_14 : decode m_M_bodyFrom.2.1 14 = .ok (.invokestatic 148, 3) := by decide +kernel
theorem d_M_bodyFrom_19 : decode m_M_bodyFrom.2.1 19 = .ok (.goto (-16), 3) := by decide +kernel
theorem d_M_bodyFrom_26 : decode m_M_bodyFrom.2.1 26 = .ok (.ifCond .eq (7), 3) := by decide +kernel
theorem d_M_bodyFrom_38 : decode m_M_bodyFrom.2.1 38 = .ok (.invokevirtual 352, 3) := by decide +kernel
theorem d_M_bodyFrom_41 : decode m_M_bodyFrom.2.1 41 = .ok (.ireturn, 1) := by decide +kernel
theorem d_M_bodyFrom_30 : decode m_M_bodyFrom.2.1 30 = .ok (.goto (11), 3) := by decide +kernel
def lp_M_bodyFrom_3 (x2 : Int32) (x3 : Int32) (bf : hs → Int32 → Int32 → Int32 → Option (Int32 × hs)) (K0 : hs → Int32 → Option (Int32 × hs)) : Nat → hs → Int32 → Option (Int32 × hs)
  | 0, _, _ => none
  | n + 1, S, x4 => bd (f_M_hasOwn  S x4 x2) fun r1 S2 => (if r1 = 0 then bd (f_M_above  S2 x4) fun r5 S6 => lp_M_bodyFrom_3 x2 x3 bf K0 n S6 r5 else K0 S2 x4)
def f_M_bodyFrom (bf : hs → Int32 → Int32 → Int32 → Option (Int32 × hs)) (S : hs) (x1 : Int32) (x2 : Int32) (x3 : Int32) : Option (Int32 × hs) := lp_M_bodyFrom_3 x2 x3 bf (fun (S8 : hs) (y9 : Int32) => (if (gI S8 191 34) = 0 then bd (f_M_body bf S8 y9 x2 x3) fun r11 S12 => some (r11, S12) else some ((0 : Int32), S8))) 1000 S x1
theorem lo_M_bodyFrom_3 (w : Wd) (d : Nat) (c : cx) {n0 z0 : Nat} {z : Int32 × hs} {bf : hs → Int32 → Int32 → Int32 → Option (Int32 × hs)} {K0 : hs → Int32 → Option (Int32 × hs)} (x2 : Int32) (x3 : Int32)  (bf_ok : ∀ (D : Nat), d ≤ D → ∀ (S : hs) (x1 : Int32) (x2 : Int32) (x3 : Int32) (z : Int32 × hs), bf S x1 x2 x3 = some z → Cl w D m_M_bodyFrom [.ref 191, .int x1, .int x2, .int x3] (mk c S) (some (.int z.1)) (mk c z.2)) (hK0 : ∀ (S : hs) (x4 : Int32), K0 S x4 = some z → J w (d + 6) m_M_bodyFrom (n0, z0, some (.int z.1), mk c z.2) 22 [some (.ref 191), none, some (.int x2), some (.int x3), some (.int x4)] [] (mk c S)) :
    ∀ (n : Nat) (S : hs) (x4 : Int32), lp_M_bodyFrom_3 x2 x3 bf K0 n S x4 = some z → J w (d + 6) m_M_bodyFrom (n0, z0, some (.int z.1), mk c z.2) 3 [some (.ref 191), none, some (.int x2), some (.int x3), some (.int x4)] [] (mk c S) := by
  intro n
  induction n with
  | zero => intro S x4 H; cases H
  | succ n ih =>
    intro S x4 H
    rw [lp_M_bodyFrom_3] at H
    refine J.run b_M_bodyFrom_3_2 k_M_bodyFrom_3_2 rfl (show J w (d + 6) m_M_bodyFrom (n0, z0, some (.int z.1), mk c z.2) 6 [some (.ref 191), none, some (.int x2), some (.int x3), some (.int x4)] [.int x2, .int x4] (mk c S) from ?_)
    obtain ⟨r1, S2, h3, H⟩ := bd_e H
    refine J.callS (y := m_M_hasOwn) (av := [.int x4, .int x2]) (rest := []) l_M_346 d_M_bodyFrom_6 (c_M_hasOwn w (d + 4) c  S x4 x2 h3) rfl (Nat.le_of_ble_eq_true rfl) ⟨Nat.le_refl _, Nat.le_refl _⟩ (show J w (d + 6) m_M_bodyFrom (n0, z0, some (.int z.1), mk c z.2) 9 [some (.ref 191), none, some (.int x2), some (.int x3), some (.int x4)] [.int r1] (mk c S2) from ?_)
    refine J.zne (tgt := 22) d_M_bodyFrom_9 rfl (fun q4 => ?_) (fun q4 => ?_)
    · have H := ite_f H q4
      refine J.mask [true, false, true, true, true] ?_
      exact hK0 S2 x4 H
    · have H := ite_t H q4
      refine J.run b_M_bodyFrom_12_1 k_M_bodyFrom_12_1 rfl (show J w (d + 6) m_M_bodyFrom (n0, z0, some (.int z.1), mk c z.2) 14 [some (.ref 191), none, some (.int x2), some (.int x3), some (.int x4)] [.int x4] (mk c S2) from ?_)
      obtain ⟨r5, S6, h7, H⟩ := bd_e H
      refine J.callS (y := m_M_above) (av := [.int x4]) (rest := []) l_M_148 d_M_bodyFrom_14 (c_M_above w (d + 4) c  S2 x4 h7) rfl (Nat.le_of_ble_eq_true rfl) ⟨Nat.le_refl _, Nat.le_refl _⟩ (show J w (d + 6) m_M_bodyFrom (n0, z0, some (.int z.1), mk c z.2) 17 [some (.ref 191), none, some (.int x2), some (.int x3), some (.int x4)] [.int r5] (mk c S6) from ?_)
      refine J.run b_M_bodyFrom_17_1 k_M_bodyFrom_17_1 rfl (show J w (d + 6) m_M_bodyFrom (n0, z0, some (.int z.1), mk c z.2) 19 [some (.ref 191), none, some (.int x2), some (.int x3), some (.int r5)] [] (mk c S6) from ?_)
      refine J.goto (tgt := 3) d_M_bodyFrom_19 rfl ?_
      refine J.mask [true, false, true, true, true] ?_
      exact ih S6 r5 H
theorem c_M_bodyFrom (w : Wd) (d : Nat) (c : cx) {bf : hs → Int32 → Int32 → Int32 → Option (Int32 × hs)} (bf_ok : ∀ (D : Nat), d ≤ D → ∀ (S : hs) (x1 : Int32) (x2 : Int32) (x3 : Int32) (z : Int32 × hs), bf S x1 x2 x3 = some z → Cl w D m_M_bodyFrom [.ref 191, .int x1, .int x2, .int x3] (mk c S) (some (.int z.1)) (mk c z.2)) (S : hs) (x1 : Int32) (x2 : Int32) (x3 : Int32)  {z : Int32 × hs} (H : f_M_bodyFrom bf S x1 x2 x3 = some z) : Cl w (d + 6) m_M_bodyFrom [.ref 191, .int x1, .int x2, .int x3] (mk c S) (some (.int z.1)) (mk c z.2) := by
  refine Cl.of (Nat.le_refl _) (Nat.le_refl _) (by decide +kernel) (Nat.le_of_ble_eq_true rfl) ?_
  unfold f_M_bodyFrom at H
  generalize hN (mk c S) = n0
  generalize hZ (mk c S) = z0
  show J w (d + 6) m_M_bodyFrom (n0, z0, some (.int z.1), mk c z.2) 0 [some (.ref 191), some (.int x1), some (.int x2), some (.int x3), none] [] (mk c S)
  refine J.run b_M_bodyFrom_0_2 k_M_bodyFrom_0_2 rfl (show J w (d + 6) m_M_bodyFrom (n0, z0, some (.int z.1), mk c z.2) 3 [some (.ref 191), some (.int x1), some (.int x2), some (.int x3), some (.int x1)] [] (mk c S) from ?_)
  refine J.mask [true, false, true, true, true] ?_
  refine lo_M_bodyFrom_3 w d c x2 x3 bf_ok ?_ 1000 S x1 H
  · intro S8 y9 H
    try dsimp only at H
    refine J.run b_M_bodyFrom_22_2 k_M_bodyFrom_22_2 rfl (And.intro (okO_st (S := S8) rfl) (show J w (d + 6) m_M_bodyFrom (n0, z0, some (.int z.1), mk c z.2) 26 [some (.ref 191), none, some (.int x2), some (.int x3), some (.int y9)] [.int (gI S8 191 34)] (mk c S8) from ?_))
    refine J.zeq (tgt := 33) d_M_bodyFrom_26 rfl (fun q10 => ?_) (fun q10 => ?_)
    · have H := ite_t H q10
      refine J.run b_M_bodyFrom_33_4 k_M_bodyFrom_33_4 rfl (show J w (d + 6) m_M_bodyFrom (n0, z0, some (.int z.1), mk c z.2) 38 [some (.ref 191), none, some (.int x2), some (.int x3), some (.int y9)] [.int x3, .int x2, .int y9, .ref 191] (mk c S8) from ?_)
      obtain ⟨r11, S12, h13, H⟩ := bd_e H
      refine J.callV (y := m_M_body) (av := [.int y9, .int x2, .int x3]) (rest := []) (q := 191) l_M_352 d_M_bodyFrom_38 (isC_st rfl rfl) (c_M_body w (d + 0) c (fun D hD => bf_ok D (Nat.le_trans (Nat.le_add_right d 0) hD)) S8 y9 x2 x3 h13) rfl (Nat.le_of_ble_eq_true rfl) ⟨Nat.le_refl _, Nat.le_refl _⟩ (show J w (d + 6) m_M_bodyFrom (n0, z0, some (.int z.1), mk c z.2) 41 [some (.ref 191), none, some (.int x2), some (.int x3), some (.int y9)] [.int r11] (mk c S12) from ?_)
      obtain rfl := some_e H
      exact J.iret d_M_bodyFrom_41 rfl rfl
    · have H := ite_f H q10
      refine J.run b_M_bodyFrom_29_1 k_M_bodyFrom_29_1 rfl (show J w (d + 6) m_M_bodyFrom (n0, z0, some (.int z.1), mk c z.2) 30 [some (.ref 191), none, some (.int x2), some (.int x3), some (.int y9)] [.int (0 : Int32)] (mk c S8) from ?_)
      refine J.goto (tgt := 41) d_M_bodyFrom_30 rfl ?_
      obtain rfl := some_e H
      exact J.iret d_M_bodyFrom_41 rfl rfl
