/-! Model: law -/
theorem J.ldcw {w : Wd} {d : Nat} {m : Mt} {g : En} {pc : Nat} {L : Lc} {st : List Value} {h : hp} {idx k : Nat} {tx : String} (hm : (m.1.cls, idx, tx, k) ∈ srf) (hd : decode m.2.1 pc = .ok (.ldc_w idx, 3)) (kk : J w d m g (pc + 3) L (.ref k :: st) h) : J w d m g pc L st h := by
  intro p e s mid args below meth c C H locs ls hS hl hlo hn hz
  obtain ⟨hx, hb, hml, hown, hts, hr, hlk, hnm, hKU⟩ := id C
  have hR := hKU.2.2.1 _ hm
  have hq : k < 33 := of_decide_eq_true (List.all_eq_true.mp (show srf.all (fun e => decide (e.2.2.2 < 33)) = true by decide +kernel) _ hm)
  have := kk p e s mid args below meth c C H locs ls hS hl hlo hn hz
  rw [List.map_cons, show cv w (.ref k) = .ref (wA w k) from congrArg Value.ref (if_pos hq)] at this
  intro T hT X
  obtain ⟨t, a1, b1⟩ := this T hT X
  exact ⟨t, X.ldcStringW hx hown (text := tx) (a := wA w k) hR.1 hR.2 (g := F0 mid pc ls (st.map (cv w))) rfl (by rw [hb]; exact hd) t a1, b1⟩

def fx_oc : Nat → hs → Option (Int32 × hs)
  | 0, _ => none
  | n + 1, S => f_M_one (fx_oc n) S 
theorem oc_T (w : Wd) (c : cx) : ∀ (n D : Nat), 10 * n ≤ D → ∀ (S : hs)  (z : Int32 × hs), fx_oc n S  = some z → Cl w D m_M_one [.ref 191] (mk c S) (none) (mk c z.2)
  | 0, _, _, _, z, H => by cases H
  | n + 1, D, hD, S, z, H => by
    obtain ⟨e, rfl⟩ : ∃ e, D = e + 9 := ⟨D - 9, by omega⟩
    exact c_M_one w e c (fun D' h' => oc_T w c n D' (by omega)) S  H
theorem oc_close (w : Wd) (d : Nat) (hd : 800 ≤ d) (c : cx) : ∀ (D : Nat), d ≤ D → ∀ (S : hs)  (z : Int32 × hs), fx_oc 80 S  = some z → Cl w D m_M_one [.ref 191] (mk c S) (none) (mk c z.2) :=
  fun D h => oc_T w c 80 D (by omega)

def b_M_law_0_13 : List Ins := [(.aload_n 0, 0, 0, 0), (.iconst (0), 0, 0, 0), (.putfield 186, 11, 7, 0), (.aload_n 0, 0, 0, 0), (.iconst (0), 0, 0, 0), (.putfield 212, 11, 9, 3), (.aload_n 0, 0, 0, 0), (.iconst (0), 0, 0, 0), (.putfield 249, 11, 10, 0), (.aload_n 0, 0, 0, 0), (.iconst (0), 0, 0, 0), (.putfield 219, 11, 12, 0), (.aload_n 0, 0, 0, 0)]
theorem k_M_law_0_13 : bok m_M_law 0 b_M_law_0_13 = true := by decide +kernel
def b_M_law_24_2 : List Ins := [(.iconst (0), 0, 0, 0), (.istore_n 1, 0, 0, 0)]
theorem k_M_law_24_2 : bok m_M_law 24 b_M_law_24_2 = true := by decide +kernel
def b_M_law_26_2 : List Ins := [(.aload_n 0, 0, 0, 0), (.getfield 212, 11, 9, 0)]
theorem k_M_law_26_2 : bok m_M_law 26 b_M_law_26_2 = true := by decide +kernel
def b_M_law_33_2 : List Ins := [(.aload_n 0, 0, 0, 0), (.getfield 195, 11, 8, 0)]
theorem k_M_law_33_2 : bok m_M_law 33 b_M_law_33_2 = true := by decide +kernel
def b_M_law_40_4 : List Ins := [(.iconst (-1), 0, 0, 0), (.istore_n 2, 0, 0, 0), (.iconst (0), 0, 0, 0), (.istore_n 3, 0, 0, 0)]
theorem k_M_law_40_4 : bok m_M_law 40 b_M_law_40_4 = true := by decide +kernel
def b_M_law_44_4 : List Ins := [(.iload_n 3, 0, 0, 0), (.aload_n 0, 0, 0, 0), (.getfield 56, 11, 14, 2), (.arraylength, 0, 0, 0)]
theorem k_M_law_44_4 : bok m_M_law 44 b_M_law_44_4 = true := by decide +kernel
def b_M_law_53_5 : List Ins := [(.aload_n 0, 0, 0, 0), (.aload_n 0, 0, 0, 0), (.getfield 56, 11, 14, 2), (.iload_n 3, 0, 0, 0), (.aaload, 0, 0, 0)]
theorem k_M_law_53_5 : bok m_M_law 53 b_M_law_53_5 = true := by decide +kernel
def b_M_law_70_3 : List Ins := [(.iload_n 2, 0, 0, 0), (.istore_n 2, 0, 0, 0), (.iinc 3 (1), 0, 0, 0)]
theorem k_M_law_70_3 : bok m_M_law 70 b_M_law_70_3 = true := by decide +kernel
def b_M_law_66_1 : List Ins := [(.iload_n 3, 0, 0, 0)]
theorem k_M_law_66_1 : bok m_M_law 66 b_M_law_66_1 = true := by decide +kernel
def b_M_law_71_2 : List Ins := [(.istore_n 2, 0, 0, 0), (.iinc 3 (1), 0, 0, 0)]
theorem k_M_law_71_2 : bok m_M_law 71 b_M_law_71_2 = true := by decide +kernel
def b_M_law_78_3 : List Ins := [(.aload_n 0, 0, 0, 0), (.iload_n 1, 0, 0, 0), (.bipush (8), 0, 0, 0)]
theorem k_M_law_78_3 : bok m_M_law 78 b_M_law_78_3 = true := by decide +kernel
def b_M_law_93_1 : List Ins := [(.iconst (0), 0, 0, 0)]
theorem k_M_law_93_1 : bok m_M_law 93 b_M_law_93_1 = true := by decide +kernel
def b_M_law_97_2 : List Ins := [(.aload_n 0, 0, 0, 0), (.getfield 212, 11, 9, 0)]
theorem k_M_law_97_2 : bok m_M_law 97 b_M_law_97_2 = true := by decide +kernel
def b_M_law_124_2 : List Ins := [(.aload_n 0, 0, 0, 0), (.getfield 212, 11, 9, 0)]
theorem k_M_law_124_2 : bok m_M_law 124 b_M_law_124_2 = true := by decide +kernel
def b_M_law_150_3 : List Ins := [(.aload_n 0, 0, 0, 0), (.aload_n 0, 0, 0, 0), (.bipush (59), 0, 0, 0)]
theorem k_M_law_150_3 : bok m_M_law 150 b_M_law_150_3 = true := by decide +kernel
def b_M_law_131_1 : List Ins := [(.aload_n 0, 0, 0, 0)]
theorem k_M_law_131_1 : bok m_M_law 131 b_M_law_131_1 = true := by decide +kernel
def b_M_law_141_2 : List Ins := [(.aload_n 0, 0, 0, 0), (.iconst (1), 0, 0, 0)]
theorem k_M_law_141_2 : bok m_M_law 141 b_M_law_141_2 = true := by decide +kernel
def b_M_law_146_1 : List Ins := [(.aload_n 0, 0, 0, 0)]
theorem k_M_law_146_1 : bok m_M_law 146 b_M_law_146_1 = true := by decide +kernel
def b_M_law_104_14 : List Ins := [(.aload_n 0, 0, 0, 0), (.getfield 59, 11, 15, 2), (.iload_n 1, 0, 0, 0), (.aload_n 0, 0, 0, 0), (.getfield 219, 11, 12, 0), (.iastore, 0, 0, 0), (.aload_n 0, 0, 0, 0), (.getfield 62, 11, 16, 2), (.iload_n 1, 0, 0, 0), (.iload_n 2, 0, 0, 0), (.iastore, 0, 0, 0), (.iinc 1 (1), 0, 0, 0), (.aload_n 0, 0, 0, 0), (.getfield 212, 11, 9, 0)]
theorem k_M_law_104_14 : bok m_M_law 104 b_M_law_104_14 = true := by decide +kernel
def b_M_law_85_1 : List Ins := [(.iload_n 2, 0, 0, 0)]
theorem k_M_law_85_1 : bok m_M_law 85 b_M_law_85_1 = true := by decide +kernel
def b_M_law_89_1 : List Ins := [(.iconst (1), 0, 0, 0)]
theorem k_M_law_89_1 : bok m_M_law 89 b_M_law_89_1 = true := by decide +kernel
def b_M_law_163_5 : List Ins := [(.aload_n 0, 0, 0, 0), (.iconst (0), 0, 0, 0), (.putfield 181, 11, 5, 0), (.aload_n 0, 0, 0, 0), (.getfield 212, 11, 9, 0)]
theorem k_M_law_163_5 : bok m_M_law 163 b_M_law_163_5 = true := by decide +kernel
def b_M_law_183_7 : List Ins := [(.aload_n 0, 0, 0, 0), (.getfield 9, 11, 0, 2), (.iconst (4), 0, 0, 0), (.iload_n 1, 0, 0, 0), (.iastore, 0, 0, 0), (.iconst (0), 0, 0, 0), (.istore_n 2, 0, 0, 0)]
theorem k_M_law_183_7 : bok m_M_law 183 b_M_law_183_7 = true := by decide +kernel
def b_M_law_192_2 : List Ins := [(.iload_n 2, 0, 0, 0), (.iload_n 1, 0, 0, 0)]
theorem k_M_law_192_2 : bok m_M_law 192 b_M_law_192_2 = true := by decide +kernel
def b_M_law_197_21 : List Ins := [(.aload_n 0, 0, 0, 0), (.getfield 9, 11, 0, 2), (.sipush (341), 0, 0, 0), (.iload_n 2, 0, 0, 0), (.iadd, 0, 0, 0), (.aload_n 0, 0, 0, 0), (.getfield 59, 11, 15, 2), (.iload_n 2, 0, 0, 0), (.iaload, 0, 0, 0), (.iastore, 0, 0, 0), (.aload_n 0, 0, 0, 0), (.getfield 9, 11, 0, 2), (.sipush (350), 0, 0, 0), (.iload_n 2, 0, 0, 0), (.iadd, 0, 0, 0), (.aload_n 0, 0, 0, 0), (.getfield 62, 11, 16, 2), (.iload_n 2, 0, 0, 0), (.iaload, 0, 0, 0), (.iastore, 0, 0, 0), (.iinc 2 (1), 0, 0, 0)]
theorem k_M_law_197_21 : bok m_M_law 197 b_M_law_197_21 = true := by decide +kernel
def b_M_law_235_10 : List Ins := [(.aload_n 0, 0, 0, 0), (.getfield 9, 11, 0, 2), (.sipush (341), 0, 0, 0), (.iload_n 1, 0, 0, 0), (.iadd, 0, 0, 0), (.aload_n 0, 0, 0, 0), (.getfield 219, 11, 12, 0), (.iastore, 0, 0, 0), (.iconst (0), 0, 0, 0), (.istore_n 2, 0, 0, 0)]
theorem k_M_law_235_10 : bok m_M_law 235 b_M_law_235_10 = true := by decide +kernel
def b_M_law_251_3 : List Ins := [(.iload_n 2, 0, 0, 0), (.aload_n 0, 0, 0, 0), (.getfield 219, 11, 12, 0)]
theorem k_M_law_251_3 : bok m_M_law 251 b_M_law_251_3 = true := by decide +kernel
def b_M_law_281_1 : List Ins := [(.iload_n 1, 0, 0, 0)]
theorem k_M_law_281_1 : bok m_M_law 281 b_M_law_281_1 = true := by decide +kernel
def b_M_law_259_11 : List Ins := [(.aload_n 0, 0, 0, 0), (.getfield 9, 11, 0, 2), (.sipush (141), 0, 0, 0), (.iload_n 2, 0, 0, 0), (.iadd, 0, 0, 0), (.aload_n 0, 0, 0, 0), (.getfield 23, 11, 11, 2), (.iload_n 2, 0, 0, 0), (.iaload, 0, 0, 0), (.iastore, 0, 0, 0), (.iinc 2 (1), 0, 0, 0)]
theorem k_M_law_259_11 : bok m_M_law 259 b_M_law_259_11 = true := by decide +kernel
def b_M_law_175_4 : List Ins := [(.bipush (-100), 0, 0, 0), (.aload_n 0, 0, 0, 0), (.getfield 189, 11, 6, 0), (.isub, 0, 0, 0)]
theorem k_M_law_175_4 : bok m_M_law 175 b_M_law_175_4 = true := by decide +kernel
theorem d_M_law_21 : decode m_M_law.2.1 21 = .ok (.invokevirtual 216, 3) := by decide +kernel
theorem d_M_law_30 : decode m_M_law.2.1 30 = .ok (.ifCond .ne (133), 3) := by decide +kernel
theorem d_M_law_37 : decode m_M_law.2.1 37 = .ok (.ifCond .eq (126), 3) := by decide +kernel
theorem d_M_law_50 : decode m_M_law.2.1 50 = .ok (.if_icmp .ge (28), 3) := by decide +kernel
theorem d_M_law_60 : decode m_M_law.2.1 60 = .ok (.invokevirtual 227, 3) := by decide +kernel
theorem d_M_law_63 : decode m_M_law.2.1 63 = .ok (.ifCond .eq (7), 3) := by decide +kernel
theorem d_M_law_75 : decode m_M_law.2.1 75 = .ok (.goto (-31), 3) := by decide +kernel
theorem d_M_law_67 : decode m_M_law.2.1 67 = .ok (.goto (4), 3) := by decide +kernel
theorem d_M_law_82 : decode m_M_law.2.1 82 = .ok (.if_icmp .ge (11), 3) := by decide +kernel
theorem d_M_law_94 : decode m_M_law.2.1 94 = .ok (.invokevirtual 231, 3) := by decide +kernel
theorem d_M_law_101 : decode m_M_law.2.1 101 = .ok (.ifCond .ne (23), 3) := by decide +kernel
theorem d_M_law_128 : decode m_M_law.2.1 128 = .ok (.ifCond .ne (22), 3) := by decide +kernel
theorem d_M_law_154 : decode m_M_law.2.1 154 = .ok (.invokevirtual 246, 3) := by decide +kernel
theorem d_M_law_157 : decode m_M_law.2.1 157 = .ok (.invokevirtual 231, 3) := by decide +kernel
theorem d_M_law_160 : decode m_M_law.2.1 160 = .ok (.goto (-134), 3) := by decide +kernel
theorem d_M_law_132 : decode m_M_law.2.1 132 = .ok (.ldc_w 261, 3) := by decide +kernel
theorem d_M_law_135 : decode m_M_law.2.1 135 = .ok (.invokevirtual 227, 3) := by decide +kernel
theorem d_M_law_138 : decode m_M_law.2.1 138 = .ok (.ifCond .eq (12), 3) := by decide +kernel
theorem d_M_law_143 : decode m_M_law.2.1 143 = .ok (.invokevirtual 231, 3) := by decide +kernel
theorem d_M_law_147 : decode m_M_law.2.1 147 = .ok (.invokevirtual 252, 3) := by decide +kernel
theorem d_M_law_86 : decode m_M_law.2.1 86 = .ok (.ifCond .lt (7), 3) := by decide +kernel
theorem d_M_law_90 : decode m_M_law.2.1 90 = .ok (.goto (4), 3) := by decide +kernel
theorem d_M_law_172 : decode m_M_law.2.1 172 = .ok (.ifCond .eq (11), 3) := by decide +kernel
theorem d_M_law_194 : decode m_M_law.2.1 194 = .ok (.if_icmp .ge (41), 3) := by decide +kernel
theorem d_M_law_232 : decode m_M_law.2.1 232 = .ok (.goto (-40), 3) := by decide +kernel
theorem d_M_law_256 : decode m_M_law.2.1 256 = .ok (.if_icmp .ge (25), 3) := by decide +kernel
theorem d_M_law_282 : decode m_M_law.2.1 282 = .ok (.ireturn, 1) := by decide +kernel
theorem d_M_law_278 : decode m_M_law.2.1 278 = .ok (.goto (-27), 3) := by decide +kernel
theorem d_M_law_182 : decode m_M_law.2.1 182 = .ok (.ireturn, 1) := by decide +kernel
def lp_M_law_44 (x1 : Int32)  (K0 : hs → Int32 → Int32 → Option (Int32 × hs)) : Nat → hs → Int32 → Int32 → Option (Int32 × hs)
  | 0, _, _, _ => none
  | n + 1, S, x2, x3 => (if (6 : Int32) ≤ x3 then K0 S x2 x3 else ck (inb x3 6) (bd (f_M_isWord  S (x3).toNatClampNeg) fun r8 S9 => (if r8 = 0 then lp_M_law_44 x1 K0 n S9 x2 (x3 + (1 : Int32)) else lp_M_law_44 x1 K0 n S9 x3 (x3 + (1 : Int32)))))
def lp_M_law_26   (K0 : hs → Int32 → Option (Int32 × hs)) : Nat → hs → Int32 → Option (Int32 × hs)
  | 0, _, _ => none
  | n + 1, S, x1 => (if (gI S 191 9) = 0 then (if (gI S 191 8) = 0 then K0 S x1 else lp_M_law_44 x1 (fun (S12 : hs) (y13 : Int32) (y14 : Int32) => (if (8 : Int32) ≤ x1 then bd (f_M_must  S12 (0 : Int32)) fun r16 S17 => (if (gI S17 191 9) = 0 then ck (inb x1 9) (ck (inb x1 8) ((if (gI (uI (uI S17 198 (x1).toNatClampNeg (gI S17 191 12)) 199 (x1).toNatClampNeg y13) 191 9) = 0 then bd (f_M_isWord  (uI (uI S17 198 (x1).toNatClampNeg (gI S17 191 12)) 199 (x1).toNatClampNeg y13) 12) fun r58 S59 => (if r58 = 0 then bd (f_M_isSign  S59 (59 : Int32)) fun r62 S63 => bd (f_M_must  S63 r62) fun r65 S66 => lp_M_law_26 K0 n S66 (x1 + (1 : Int32)) else bd (f_M_must  S59 (1 : Int32)) fun r68 S69 => bd (f_M_condition (fx_oc 80) S69) fun r71 S72 => bd (f_M_isSign  S72 (59 : Int32)) fun r74 S75 => bd (f_M_must  S75 r74) fun r77 S78 => lp_M_law_26 K0 n S78 (x1 + (1 : Int32))) else bd (f_M_isSign  (uI (uI S17 198 (x1).toNatClampNeg (gI S17 191 12)) 199 (x1).toNatClampNeg y13) (59 : Int32)) fun r52 S53 => bd (f_M_must  S53 r52) fun r55 S56 => lp_M_law_26 K0 n S56 (x1 + (1 : Int32))))) else (if (gI S17 191 9) = 0 then bd (f_M_isWord  S17 12) fun r27 S28 => (if r27 = 0 then bd (f_M_isSign  S28 (59 : Int32)) fun r31 S32 => bd (f_M_must  S32 r31) fun r34 S35 => lp_M_law_26 K0 n S35 x1 else bd (f_M_must  S28 (1 : Int32)) fun r37 S38 => bd (f_M_condition (fx_oc 80) S38) fun r40 S41 => bd (f_M_isSign  S41 (59 : Int32)) fun r43 S44 => bd (f_M_must  S44 r43) fun r46 S47 => lp_M_law_26 K0 n S47 x1) else bd (f_M_isSign  S17 (59 : Int32)) fun r21 S22 => bd (f_M_must  S22 r21) fun r24 S25 => lp_M_law_26 K0 n S25 x1)) else (if y13 < 0 then bd (f_M_must  S12 (0 : Int32)) fun r81 S82 => (if (gI S82 191 9) = 0 then ck (inb x1 9) (ck (inb x1 8) ((if (gI (uI (uI S82 198 (x1).toNatClampNeg (gI S82 191 12)) 199 (x1).toNatClampNeg y13) 191 9) = 0 then bd (f_M_isWord  (uI (uI S82 198 (x1).toNatClampNeg (gI S82 191 12)) 199 (x1).toNatClampNeg y13) 12) fun r123 S124 => (if r123 = 0 then bd (f_M_isSign  S124 (59 : Int32)) fun r127 S128 => bd (f_M_must  S128 r127) fun r130 S131 => lp_M_law_26 K0 n S131 (x1 + (1 : Int32)) else bd (f_M_must  S124 (1 : Int32)) fun r133 S134 => bd (f_M_condition (fx_oc 80) S134) fun r136 S137 => bd (f_M_isSign  S137 (59 : Int32)) fun r139 S140 => bd (f_M_must  S140 r139) fun r142 S143 => lp_M_law_26 K0 n S143 (x1 + (1 : Int32))) else bd (f_M_isSign  (uI (uI S82 198 (x1).toNatClampNeg (gI S82 191 12)) 199 (x1).toNatClampNeg y13) (59 : Int32)) fun r117 S118 => bd (f_M_must  S118 r117) fun r120 S121 => lp_M_law_26 K0 n S121 (x1 + (1 : Int32))))) else (if (gI S82 191 9) = 0 then bd (f_M_isWord  S82 12) fun r92 S93 => (if r92 = 0 then bd (f_M_isSign  S93 (59 : Int32)) fun r96 S97 => bd (f_M_must  S97 r96) fun r99 S100 => lp_M_law_26 K0 n S100 x1 else bd (f_M_must  S93 (1 : Int32)) fun r102 S103 => bd (f_M_condition (fx_oc 80) S103) fun r105 S106 => bd (f_M_isSign  S106 (59 : Int32)) fun r108 S109 => bd (f_M_must  S109 r108) fun r111 S112 => lp_M_law_26 K0 n S112 x1) else bd (f_M_isSign  S82 (59 : Int32)) fun r86 S87 => bd (f_M_must  S87 r86) fun r89 S90 => lp_M_law_26 K0 n S90 x1)) else bd (f_M_must  S12 (1 : Int32)) fun r145 S146 => (if (gI S146 191 9) = 0 then ck (inb x1 9) (ck (inb x1 8) ((if (gI (uI (uI S146 198 (x1).toNatClampNeg (gI S146 191 12)) 199 (x1).toNatClampNeg y13) 191 9) = 0 then bd (f_M_isWord  (uI (uI S146 198 (x1).toNatClampNeg (gI S146 191 12)) 199 (x1).toNatClampNeg y13) 12) fun r187 S188 => (if r187 = 0 then bd (f_M_isSign  S188 (59 : Int32)) fun r191 S192 => bd (f_M_must  S192 r191) fun r194 S195 => lp_M_law_26 K0 n S195 (x1 + (1 : Int32)) else bd (f_M_must  S188 (1 : Int32)) fun r197 S198 => bd (f_M_condition (fx_oc 80) S198) fun r200 S201 => bd (f_M_isSign  S201 (59 : Int32)) fun r203 S204 => bd (f_M_must  S204 r203) fun r206 S207 => lp_M_law_26 K0 n S207 (x1 + (1 : Int32))) else bd (f_M_isSign  (uI (uI S146 198 (x1).toNatClampNeg (gI S146 191 12)) 199 (x1).toNatClampNeg y13) (59 : Int32)) fun r181 S182 => bd (f_M_must  S182 r181) fun r184 S185 => lp_M_law_26 K0 n S185 (x1 + (1 : Int32))))) else (if (gI S146 191 9) = 0 then bd (f_M_isWord  S146 12) fun r156 S157 => (if r156 = 0 then bd (f_M_isSign  S157 (59 : Int32)) fun r160 S161 => bd (f_M_must  S161 r160) fun r163 S164 => lp_M_law_26 K0 n S164 x1 else bd (f_M_must  S157 (1 : Int32)) fun r166 S167 => bd (f_M_condition (fx_oc 80) S167) fun r169 S170 => bd (f_M_isSign  S170 (59 : Int32)) fun r172 S173 => bd (f_M_must  S173 r172) fun r175 S176 => lp_M_law_26 K0 n S176 x1) else bd (f_M_isSign  S146 (59 : Int32)) fun r150 S151 => bd (f_M_must  S151 r150) fun r153 S154 => lp_M_law_26 K0 n S154 x1))))) 1000 S (-1 : Int32) (0 : Int32)) else K0 S x1)
def lp_M_law_192 (x1 : Int32)  (K0 : hs → Int32 → Option (Int32 × hs)) : Nat → hs → Int32 → Option (Int32 × hs)
  | 0, _, _ => none
  | n + 1, S, x2 => (if x1 ≤ x2 then K0 S x2 else ck (inb x2 9) (ck (inb ((341 : Int32) + x2) 358) (ck (inb x2 8) (ck (inb ((350 : Int32) + x2) 358) (lp_M_law_192 x1 K0 n (uI (uI S 192 (((341 : Int32) + x2)).toNatClampNeg (gI S 198 (x2).toNatClampNeg)) 192 (((350 : Int32) + x2)).toNatClampNeg (gI (uI S 192 (((341 : Int32) + x2)).toNatClampNeg (gI S 198 (x2).toNatClampNeg)) 199 (x2).toNatClampNeg)) (x2 + (1 : Int32)))))))
def lp_M_law_251 (x1 : Int32)   : Nat → hs → Int32 → Option (Int32 × hs)
  | 0, _, _ => none
  | n + 1, S, x2 => (if (gI S 191 12) ≤ x2 then some (x1, S) else ck (inb x2 200) (ck (inb ((141 : Int32) + x2) 358) (lp_M_law_251 x1 n (uI S 192 (((141 : Int32) + x2)).toNatClampNeg (gI S 195 (x2).toNatClampNeg)) (x2 + (1 : Int32)))))
def f_M_law  (S : hs)  : Option (Int32 × hs) := bd (f_M_next  (uI (uI (uI (uI S 191 7 (0 : Int32)) 191 9 (0 : Int32)) 191 10 (0 : Int32)) 191 12 (0 : Int32))) fun r1 S2 => lp_M_law_26 (fun (S209 : hs) (y210 : Int32) => (if (gI (uI S209 191 5 (0 : Int32)) 191 9) = 0 then lp_M_law_192 y210 (fun (S217 : hs) (y218 : Int32) => ck (inb ((341 : Int32) + y210) 358) (lp_M_law_251 y210 1000 (uI S217 192 (((341 : Int32) + y210)).toNatClampNeg (gI S217 191 12)) (0 : Int32))) 1000 (uI (uI S209 191 5 (0 : Int32)) 192 4 y210) (0 : Int32) else some (((-100 : Int32) - (gI (uI S209 191 5 (0 : Int32)) 191 6)), (uI S209 191 5 (0 : Int32))))) 1000 S2 (0 : Int32)
theorem lo_M_law_44 (w : Wd) (d : Nat) (c : cx) {n0 z0 : Nat} {z : Int32 × hs}  {K0 : hs → Int32 → Int32 → Option (Int32 × hs)} (x1 : Int32)   (hK0 : ∀ (S : hs) (x2 : Int32) (x3 : Int32), K0 S x2 x3 = some z → J w (d + 809) m_M_law (n0, z0, some (.int z.1), mk c z.2) 78 [some (.ref 191), some (.int x1), some (.int x2), none] [] (mk c S)) :
    ∀ (n : Nat) (S : hs) (x2 : Int32) (x3 : Int32), lp_M_law_44 x1 K0 n S x2 x3 = some z → J w (d + 809) m_M_law (n0, z0, some (.int z.1), mk c z.2) 44 [some (.ref 191), some (.int x1), some (.int x2), some (.int x3)] [] (mk c S) := by
  intro n
  induction n with
  | zero => intro S x2 x3 H; cases H
  | succ n ih =>
    intro S x2 x3 H
    rw [lp_M_law_44] at H
    refine J.run b_M_law_44_4 k_M_law_44_4 rfl (And.intro (okO_st (S := S) rfl) (And.intro (okN_st (S := S) (k := 25) (n := 6) rfl rfl) (show J w (d + 809) m_M_law (n0, z0, some (.int z.1), mk c z.2) 50 [some (.ref 191), some (.int x1), some (.int x2), some (.int x3)] [.int (6 : Int32), .int x3] (mk c S) from ?_)))
    refine J.cge (tgt := 78) d_M_law_50 rfl (fun q6 => ?_) (fun q6 => ?_)
    · have H := ite_t H q6
      refine J.mask [true, true, true, false] ?_
      exact hK0 S x2 x3 H
    · have H := ite_f H q6
      obtain ⟨g7, H⟩ := ck_e H
      refine J.run b_M_law_53_5 k_M_law_53_5 rfl (And.intro (okO_st (S := S) rfl) (And.intro (okQ_st (S := S) (k := 25) (n := 6) rfl rfl g7) (show J w (d + 809) m_M_law (n0, z0, some (.int z.1), mk c z.2) 60 [some (.ref 191), some (.int x1), some (.int x2), some (.int x3)] [.ref (x3).toNatClampNeg, .ref 191] (mk c S) from ?_)))
      obtain ⟨r8, S9, h10, H⟩ := bd_e H
      refine J.callV (y := m_M_isWord) (av := [.ref (x3).toNatClampNeg]) (rest := []) (q := 191) l_M_227 d_M_law_60 (isC_st rfl rfl) (c_M_isWord w (d + 802) c  S (x3).toNatClampNeg (Nat.lt_trans (inb_lt g7) (by decide)) h10) rfl (Nat.le_of_ble_eq_true rfl) ⟨Nat.le_refl _, Nat.le_refl _⟩ (show J w (d + 809) m_M_law (n0, z0, some (.int z.1), mk c z.2) 63 [some (.ref 191), some (.int x1), some (.int x2), some (.int x3)] [.int r8] (mk c S9) from ?_)
      refine J.zeq (tgt := 70) d_M_law_63 rfl (fun q11 => ?_) (fun q11 => ?_)
      · have H := ite_t H q11
        refine J.run b_M_law_70_3 k_M_law_70_3 rfl (show J w (d + 809) m_M_law (n0, z0, some (.int z.1), mk c z.2) 75 [some (.ref 191), some (.int x1), some (.int x2), some (.int (x3 + (1 : Int32)))] [] (mk c S9) from ?_)
        refine J.goto (tgt := 44) d_M_law_75 rfl ?_
        refine J.mask [true, true, true, true] ?_
        exact ih S9 x2 (x3 + (1 : Int32)) H
      · have H := ite_f H q11
        refine J.run b_M_law_66_1 k_M_law_66_1 rfl (show J w (d + 809) m_M_law (n0, z0, some (.int z.1), mk c z.2) 67 [some (.ref 191), some (.int x1), some (.int x2), some (.int x3)] [.int x3] (mk c S9) from ?_)
        refine J.goto (tgt := 71) d_M_law_67 rfl ?_
        refine J.run b_M_law_71_2 k_M_law_71_2 rfl (show J w (d + 809) m_M_law (n0, z0, some (.int z.1), mk c z.2) 75 [some (.ref 191), some (.int x1), some (.int x3), some (.int (x3 + (1 : Int32)))] [] (mk c S9) from ?_)
        refine J.goto (tgt := 44) d_M_law_75 rfl ?_
        refine J.mask [true, true, true, true] ?_
        exact ih S9 x3 (x3 + (1 : Int32)) H
theorem lo_M_law_26 (w : Wd) (d : Nat) (c : cx) {n0 z0 : Nat} {z : Int32 × hs}  {K0 : hs → Int32 → Option (Int32 × hs)}    (hK0 : ∀ (S : hs) (x1 : Int32), K0 S x1 = some z → J w (d + 809) m_M_law (n0, z0, some (.int z.1), mk c z.2) 163 [some (.ref 191), some (.int x1), none, none] [] (mk c S)) :
    ∀ (n : Nat) (S : hs) (x1 : Int32), lp_M_law_26 K0 n S x1 = some z → J w (d + 809) m_M_law (n0, z0, some (.int z.1), mk c z.2) 26 [some (.ref 191), some (.int x1), none, none] [] (mk c S) := by
  intro n
  induction n with
  | zero => intro S x1 H; cases H
  | succ n ih =>
    intro S x1 H
    rw [lp_M_law_26] at H
    refine J.run b_M_law_26_2 k_M_law_26_2 rfl (And.intro (okO_st (S := S) rfl) (show J w (d + 809) m_M_law (n0, z0, some (.int z.1), mk c z.2) 30 [some (.ref 191), some (.int x1), none, none] [.int (gI S 191 9)] (mk c S) from ?_))
    refine J.zne (tgt := 163) d_M_law_30 rfl (fun q4 => ?_) (fun q4 => ?_)
    · have H := ite_f H q4
      refine J.mask [true, true, false, false] ?_
      exact hK0 S x1 H
    · have H := ite_t H q4
      refine J.run b_M_law_33_2 k_M_law_33_2 rfl (And.intro (okO_st (S := S) rfl) (show J w (d + 809) m_M_law (n0, z0, some (.int z.1), mk c z.2) 37 [some (.ref 191), some (.int x1), none, none] [.int (gI S 191 8)] (mk c S) from ?_))
      refine J.zeq (tgt := 163) d_M_law_37 rfl (fun q5 => ?_) (fun q5 => ?_)
      · have H := ite_t H q5
        refine J.mask [true, true, false, false] ?_
        exact hK0 S x1 H
      · have H := ite_f H q5
        refine J.run b_M_law_40_4 k_M_law_40_4 rfl (show J w (d + 809) m_M_law (n0, z0, some (.int z.1), mk c z.2) 44 [some (.ref 191), some (.int x1), some (.int (-1 : Int32)), some (.int (0 : Int32))] [] (mk c S) from ?_)
        refine J.mask [true, true, true, true] ?_
        refine lo_M_law_44 w d c x1 ?_ 1000 S (-1 : Int32) (0 : Int32) H
        · intro S12 y13 y14 H
          try dsimp only at H
          refine J.run b_M_law_78_3 k_M_law_78_3 rfl (show J w (d + 809) m_M_law (n0, z0, some (.int z.1), mk c z.2) 82 [some (.ref 191), some (.int x1), some (.int y13), none] [.int (8 : Int32), .int x1, .ref 191] (mk c S12) from ?_)
          refine J.cge (tgt := 93) d_M_law_82 rfl (fun q15 => ?_) (fun q15 => ?_)
          · have H := ite_t H q15
            refine J.run b_M_law_93_1 k_M_law_93_1 rfl (show J w (d + 809) m_M_law (n0, z0, some (.int z.1), mk c z.2) 94 [some (.ref 191), some (.int x1), some (.int y13), none] [.int (0 : Int32), .ref 191] (mk c S12) from ?_)
            obtain ⟨r16, S17, h18, H⟩ := bd_e H
            refine J.callV (y := m_M_must) (av := [.int (0 : Int32)]) (rest := []) (q := 191) l_M_231 d_M_law_94 (isC_st rfl rfl) (c_M_must w (d + 804) c  S12 (0 : Int32) h18) rfl (Nat.le_of_ble_eq_true rfl) ⟨Nat.le_refl _, Nat.le_refl _⟩ (show J w (d + 809) m_M_law (n0, z0, some (.int z.1), mk c z.2) 97 [some (.ref 191), some (.int x1), some (.int y13), none] [] (mk c S17) from ?_)
            refine J.run b_M_law_97_2 k_M_law_97_2 rfl (And.intro (okO_st (S := S17) rfl) (show J w (d + 809) m_M_law (n0, z0, some (.int z.1), mk c z.2) 101 [some (.ref 191), some (.int x1), some (.int y13), none] [.int (gI S17 191 9)] (mk c S17) from ?_))
            refine J.zne (tgt := 124) d_M_law_101 rfl (fun q19 => ?_) (fun q19 => ?_)
            · have H := ite_f H q19
              refine J.run b_M_law_124_2 k_M_law_124_2 rfl (And.intro (okO_st (S := S17) rfl) (show J w (d + 809) m_M_law (n0, z0, some (.int z.1), mk c z.2) 128 [some (.ref 191), some (.int x1), some (.int y13), none] [.int (gI S17 191 9)] (mk c S17) from ?_))
              refine J.zne (tgt := 150) d_M_law_128 rfl (fun q20 => ?_) (fun q20 => ?_)
              · have H := ite_f H q20
                refine J.run b_M_law_150_3 k_M_law_150_3 rfl (show J w (d + 809) m_M_law (n0, z0, some (.int z.1), mk c z.2) 154 [some (.ref 191), some (.int x1), some (.int y13), none] [.int (59 : Int32), .ref 191, .ref 191] (mk c S17) from ?_)
                obtain ⟨r21, S22, h23, H⟩ := bd_e H
                refine J.callV (y := m_M_isSign) (av := [.int (59 : Int32)]) (rest := [.ref 191]) (q := 191) l_M_246 d_M_law_154 (isC_st rfl rfl) (c_M_isSign w (d + 807) c  S17 (59 : Int32) h23) rfl (Nat.le_of_ble_eq_true rfl) ⟨Nat.le_refl _, Nat.le_refl _⟩ (show J w (d + 809) m_M_law (n0, z0, some (.int z.1), mk c z.2) 157 [some (.ref 191), some (.int x1), some (.int y13), none] [.int r21, .ref 191] (mk c S22) from ?_)
                obtain ⟨r24, S25, h26, H⟩ := bd_e H
                refine J.callV (y := m_M_must) (av := [.int r21]) (rest := []) (q := 191) l_M_231 d_M_law_157 (isC_st rfl rfl) (c_M_must w (d + 804) c  S22 r21 h26) rfl (Nat.le_of_ble_eq_true rfl) ⟨Nat.le_refl _, Nat.le_refl _⟩ (show J w (d + 809) m_M_law (n0, z0, some (.int z.1), mk c z.2) 160 [some (.ref 191), some (.int x1), some (.int y13), none] [] (mk c S25) from ?_)
                refine J.goto (tgt := 26) d_M_law_160 rfl ?_
                refine J.mask [true, true, false, false] ?_
                exact ih S25 x1 H
              · have H := ite_t H q20
                refine J.run b_M_law_131_1 k_M_law_131_1 rfl (show J w (d + 809) m_M_law (n0, z0, some (.int z.1), mk c z.2) 132 [some (.ref 191), some (.int x1), some (.int y13), none] [.ref 191] (mk c S17) from ?_)
                refine J.ldcw (k := 12) (List.mem_of_getElem? (i := 28) rfl) d_M_law_132 (show J w (d + 809) m_M_law (n0, z0, some (.int z.1), mk c z.2) 135 [some (.ref 191), some (.int x1), some (.int y13), none] [.ref 12, .ref 191] (mk c S17) from ?_)
                obtain ⟨r27, S28, h29, H⟩ := bd_e H
                refine J.callV (y := m_M_isWord) (av := [.ref 12]) (rest := []) (q := 191) l_M_227 d_M_law_135 (isC_st rfl rfl) (c_M_isWord w (d + 802) c  S17 12 (by decide) h29) rfl (Nat.le_of_ble_eq_true rfl) ⟨Nat.le_refl _, Nat.le_refl _⟩ (show J w (d + 809) m_M_law (n0, z0, some (.int z.1), mk c z.2) 138 [some (.ref 191), some (.int x1), some (.int y13), none] [.int r27] (mk c S28) from ?_)
                refine J.zeq (tgt := 150) d_M_law_138 rfl (fun q30 => ?_) (fun q30 => ?_)
                · have H := ite_t H q30
                  refine J.run b_M_law_150_3 k_M_law_150_3 rfl (show J w (d + 809) m_M_law (n0, z0, some (.int z.1), mk c z.2) 154 [some (.ref 191), some (.int x1), some (.int y13), none] [.int (59 : Int32), .ref 191, .ref 191] (mk c S28) from ?_)
                  obtain ⟨r31, S32, h33, H⟩ := bd_e H
                  refine J.callV (y := m_M_isSign) (av := [.int (59 : Int32)]) (rest := [.ref 191]) (q := 191) l_M_246 d_M_law_154 (isC_st rfl rfl) (c_M_isSign w (d + 807) c  S28 (59 : Int32) h33) rfl (Nat.le_of_ble_eq_true rfl) ⟨Nat.le_refl _, Nat.le_refl _⟩ (show J w (d + 809) m_M_law (n0, z0, some (.int z.1), mk c z.2) 157 [some (.ref 191), some (.int x1), some (.int y13), none] [.int r31, .ref 191] (mk c S32) from ?_)
                  obtain ⟨r34, S35, h36, H⟩ := bd_e H
                  refine J.callV (y := m_M_must) (av := [.int r31]) (rest := []) (q := 191) l_M_231 d_M_law_157 (isC_st rfl rfl) (c_M_must w (d + 804) c  S32 r31 h36) rfl (Nat.le_of_ble_eq_true rfl) ⟨Nat.le_refl _, Nat.le_refl _⟩ (show J w (d + 809) m_M_law (n0, z0, some (.int z.1), mk c z.2) 160 [some (.ref 191), some (.int x1), some (.int y13), none] [] (mk c S35) from ?_)
                  refine J.goto (tgt := 26) d_M_law_160 rfl ?_
                  refine J.mask [true, true, false, false] ?_
                  exact ih S35 x1 H
                · have H := ite_f H q30
                  refine J.run b_M_law_141_2 k_M_law_141_2 rfl (show J w (d + 809) m_M_law (n0, z0, some (.int z.1), mk c z.2) 143 [some (.ref 191), some (.int x1), some (.int y13), none] [.int (1 : Int32), .ref 191] (mk c S28) from ?_)
                  obtain ⟨r37, S38, h39, H⟩ := bd_e H
                  refine J.callV (y := m_M_must) (av := [.int (1 : Int32)]) (rest := []) (q := 191) l_M_231 d_M_law_143 (isC_st rfl rfl) (c_M_must w (d + 804) c  S28 (1 : Int32) h39) rfl (Nat.le_of_ble_eq_true rfl) ⟨Nat.le_refl _, Nat.le_refl _⟩ (show J w (d + 809) m_M_law (n0, z0, some (.int z.1), mk c z.2) 146 [some (.ref 191), some (.int x1), some (.int y13), none] [] (mk c S38) from ?_)
                  refine J.run b_M_law_146_1 k_M_law_146_1 rfl (show J w (d + 809) m_M_law (n0, z0, some (.int z.1), mk c z.2) 147 [some (.ref 191), some (.int x1), some (.int y13), none] [.ref 191] (mk c S38) from ?_)
                  obtain ⟨r40, S41, h42, H⟩ := bd_e H
                  refine J.callV (y := m_M_condition) (av := []) (rest := []) (q := 191) l_M_252 d_M_law_147 (isC_st rfl rfl) (c_M_condition w (d + 800) c (oc_close w (d + 800) (by omega) c) S38 h42) rfl (Nat.le_of_ble_eq_true rfl) ⟨Nat.le_refl _, Nat.le_refl _⟩ (show J w (d + 809) m_M_law (n0, z0, some (.int z.1), mk c z.2) 150 [some (.ref 191), some (.int x1), some (.int y13), none] [] (mk c S41) from ?_)
                  refine J.run b_M_law_150_3 k_M_law_150_3 rfl (show J w (d + 809) m_M_law (n0, z0, some (.int z.1), mk c z.2) 154 [some (.ref 191), some (.int x1), some (.int y13), none] [.int (59 : Int32), .ref 191, .ref 191] (mk c S41) from ?_)
                  obtain ⟨r43, S44, h45, H⟩ := bd_e H
                  refine J.callV (y := m_M_isSign) (av := [.int (59 : Int32)]) (rest := [.ref 191]) (q := 191) l_M_246 d_M_law_154 (isC_st rfl rfl) (c_M_isSign w (d + 807) c  S41 (59 : Int32) h45) rfl (Nat.le_of_ble_eq_true rfl) ⟨Nat.le_refl _, Nat.le_refl _⟩ (show J w (d + 809) m_M_law (n0, z0, some (.int z.1), mk c z.2) 157 [some (.ref 191), some (.int x1), some (.int y13), none] [.int r43, .ref 191] (mk c S44) from ?_)
                  obtain ⟨r46, S47, h48, H⟩ := bd_e H
                  refine J.callV (y := m_M_must) (av := [.int r43]) (rest := []) (q := 191) l_M_231 d_M_law_157 (isC_st rfl rfl) (c_M_must w (d + 804) c  S44 r43 h48) rfl (Nat.le_of_ble_eq_true rfl) ⟨Nat.le_refl _, Nat.le_refl _⟩ (show J w (d + 809) m_M_law (n0, z0, some (.int z.1), mk c z.2) 160 [some (.ref 191), some (.int x1), some (.int y13), none] [] (mk c S47) from ?_)
                  refine J.goto (tgt := 26) d_M_law_160 rfl ?_
                  refine J.mask [true, true, false, false] ?_
                  exact ih S47 x1 H
            · have H := ite_t H q19
              obtain ⟨g49, H⟩ := ck_e H
              obtain ⟨g50, H⟩ := ck_e H
              refine J.run b_M_law_104_14 k_M_law_104_14 rfl (And.intro (okO_st (S := S17) rfl) (And.intro (okO_st (S := S17) rfl) (And.intro (okB_st (S := S17) (n := 9) rfl g49) (And.intro (okO_st (S := (uI S17 198 (x1).toNatClampNeg (gI S17 191 12))) rfl) (And.intro (okB_st (S := (uI S17 198 (x1).toNatClampNeg (gI S17 191 12))) (n := 8) rfl g50) (And.intro (okO_st (S := (uI (uI S17 198 (x1).toNatClampNeg (gI S17 191 12)) 199 (x1).toNatClampNeg y13)) rfl) (show J w (d + 809) m_M_law (n0, z0, some (.int z.1), mk c z.2) 128 [some (.ref 191), some (.int (x1 + (1 : Int32))), some (.int y13), none] [.int (gI (uI (uI S17 198 (x1).toNatClampNeg (gI S17 191 12)) 199 (x1).toNatClampNeg y13) 191 9)] (mk c (uI (uI S17 198 (x1).toNatClampNeg (gI S17 191 12)) 199 (x1).toNatClampNeg y13)) from ?_)))))))
              refine J.zne (tgt := 150) d_M_law_128 rfl (fun q51 => ?_) (fun q51 => ?_)
              · have H := ite_f H q51
                refine J.run b_M_law_150_3 k_M_law_150_3 rfl (show J w (d + 809) m_M_law (n0, z0, some (.int z.1), mk c z.2) 154 [some (.ref 191), some (.int (x1 + (1 : Int32))), some (.int y13), none] [.int (59 : Int32), .ref 191, .ref 191] (mk c (uI (uI S17 198 (x1).toNatClampNeg (gI S17 191 12)) 199 (x1).toNatClampNeg y13)) from ?_)
                obtain ⟨r52, S53, h54, H⟩ := bd_e H
                refine J.callV (y := m_M_isSign) (av := [.int (59 : Int32)]) (rest := [.ref 191]) (q := 191) l_M_246 d_M_law_154 (isC_st rfl rfl) (c_M_isSign w (d + 807) c  (uI (uI S17 198 (x1).toNatClampNeg (gI S17 191 12)) 199 (x1).toNatClampNeg y13) (59 : Int32) h54) rfl (Nat.le_of_ble_eq_true rfl) ⟨Nat.le_refl _, Nat.le_refl _⟩ (show J w (d + 809) m_M_law (n0, z0, some (.int z.1), mk c z.2) 157 [some (.ref 191), some (.int (x1 + (1 : Int32))), some (.int y13), none] [.int r52, .ref 191] (mk c S53) from ?_)
                obtain ⟨r55, S56, h57, H⟩ := bd_e H
                refine J.callV (y := m_M_must) (av := [.int r52]) (rest := []) (q := 191) l_M_231 d_M_law_157 (isC_st rfl rfl) (c_M_must w (d + 804) c  S53 r52 h57) rfl (Nat.le_of_ble_eq_true rfl) ⟨Nat.le_refl _, Nat.le_refl _⟩ (show J w (d + 809) m_M_law (n0, z0, some (.int z.1), mk c z.2) 160 [some (.ref 191), some (.int (x1 + (1 : Int32))), some (.int y13), none] [] (mk c S56) from ?_)
                refine J.goto (tgt := 26) d_M_law_160 rfl ?_
                refine J.mask [true, true, false, false] ?_
                exact ih S56 (x1 + (1 : Int32)) H
              · have H := ite_t H q51
                refine J.run b_M_law_131_1 k_M_law_131_1 rfl (show J w (d + 809) m_M_law (n0, z0, some (.int z.1), mk c z.2) 132 [some (.ref 191), some (.int (x1 + (1 : Int32))), some (.int y13), none] [.ref 191] (mk c (uI (uI S17 198 (x1).toNatClampNeg (gI S17 191 12)) 199 (x1).toNatClampNeg y13)) from ?_)
                refine J.ldcw (k := 12) (List.mem_of_getElem? (i := 28) rfl) d_M_law_132 (show J w (d + 809) m_M_law (n0, z0, some (.int z.1), mk c z.2) 135 [some (.ref 191), some (.int (x1 + (1 : Int32))), some (.int y13), none] [.ref 12, .ref 191] (mk c (uI (uI S17 198 (x1).toNatClampNeg (gI S17 191 12)) 199 (x1).toNatClampNeg y13)) from ?_)
                obtain ⟨r58, S59, h60, H⟩ := bd_e H
                refine J.callV (y := m_M_isWord) (av := [.ref 12]) (rest := []) (q := 191) l_M_227 d_M_law_135 (isC_st rfl rfl) (c_M_isWord w (d + 802) c  (uI (uI S17 198 (x1).toNatClampNeg (gI S17 191 12)) 199 (x1).toNatClampNeg y13) 12 (by decide) h60) rfl (Nat.le_of_ble_eq_true rfl) ⟨Nat.le_refl _, Nat.le_refl _⟩ (show J w (d + 809) m_M_law (n0, z0, some (.int z.1), mk c z.2) 138 [some (.ref 191), some (.int (x1 + (1 : Int32))), some (.int y13), none] [.int r58] (mk c S59) from ?_)
                refine J.zeq (tgt := 150) d_M_law_138 rfl (fun q61 => ?_) (fun q61 => ?_)
                · have H := ite_t H q61
                  refine J.run b_M_law_150_3 k_M_law_150_3 rfl (show J w (d + 809) m_M_law (n0, z0, some (.int z.1), mk c z.2) 154 [some (.ref 191), some (.int (x1 + (1 : Int32))), some (.int y13), none] [.int (59 : Int32), .ref 191, .ref 191] (mk c S59) from ?_)
                  obtain ⟨r62, S63, h64, H⟩ := bd_e H
                  refine J.callV (y := m_M_isSign) (av := [.int (59 : Int32)]) (rest := [.ref 191]) (q := 191) l_M_246 d_M_law_154 (isC_st rfl rfl) (c_M_isSign w (d + 807) c  S59 (59 : Int32) h64) rfl (Nat.le_of_ble_eq_true rfl) ⟨Nat.le_refl _, Nat.le_refl _⟩ (show J w (d + 809) m_M_law (n0, z0, some (.int z.1), mk c z.2) 157 [some (.ref 191), some (.int (x1 + (1 : Int32))), some (.int y13), none] [.int r62, .ref 191] (mk c S63) from ?_)
                  obtain ⟨r65, S66, h67, H⟩ := bd_e H
                  refine J.callV (y := m_M_must) (av := [.int r62]) (rest := []) (q := 191) l_M_231 d_M_law_157 (isC_st rfl rfl) (c_M_must w (d + 804) c  S63 r62 h67) rfl (Nat.le_of_ble_eq_true rfl) ⟨Nat.le_refl _, Nat.le_refl _⟩ (show J w (d + 809) m_M_law (n0, z0, some (.int z.1), mk c z.2) 160 [some (.ref 191), some (.int (x1 + (1 : Int32))), some (.int y13), none] [] (mk c S66) from ?_)
                  refine J.goto (tgt := 26) d_M_law_160 rfl ?_
                  refine J.mask [true, true, false, false] ?_
                  exact ih S66 (x1 + (1 : Int32)) H
                · have H := ite_f H q61
                  refine J.run b_M_law_141_2 k_M_law_141_2 rfl (show J w (d + 809) m_M_law (n0, z0, some (.int z.1), mk c z.2) 143 [some (.ref 191), some (.int (x1 + (1 : Int32))), some (.int y13), none] [.int (1 : Int32), .ref 191] (mk c S59) from ?_)
                  obtain ⟨r68, S69, h70, H⟩ := bd_e H
                  refine J.callV (y := m_M_must) (av := [.int (1 : Int32)]) (rest := []) (q := 191) l_M_231 d_M_law_143 (isC_st rfl rfl) (c_M_must w (d + 804) c  S59 (1 : Int32) h70) rfl (Nat.le_of_ble_eq_true rfl) ⟨Nat.le_refl _, Nat.le_refl _⟩ (show J w (d + 809) m_M_law (n0, z0, some (.int z.1), mk c z.2) 146 [some (.ref 191), some (.int (x1 + (1 : Int32))), some (.int y13), none] [] (mk c S69) from ?_)
                  refine J.run b_M_law_146_1 k_M_law_146_1 rfl (show J w (d + 809) m_M_law (n0, z0, some (.int z.1), mk c z.2) 147 [some (.ref 191), some (.int (x1 + (1 : Int32))), some (.int y13), none] [.ref 191] (mk c S69) from ?_)
                  obtain ⟨r71, S72, h73, H⟩ := bd_e H
                  refine J.callV (y := m_M_condition) (av := []) (rest := []) (q := 191) l_M_252 d_M_law_147 (isC_st rfl rfl) (c_M_condition w (d + 800) c (oc_close w (d + 800) (by omega) c) S69 h73) rfl (Nat.le_of_ble_eq_true rfl) ⟨Nat.le_refl _, Nat.le_refl _⟩ (show J w (d + 809) m_M_law (n0, z0, some (.int z.1), mk c z.2) 150 [some (.ref 191), some (.int (x1 + (1 : Int32))), some (.int y13), none] [] (mk c S72) from ?_)
                  refine J.run b_M_law_150_3 k_M_law_150_3 rfl (show J w (d + 809) m_M_law (n0, z0, some (.int z.1), mk c z.2) 154 [some (.ref 191), some (.int (x1 + (1 : Int32))), some (.int y13), none] [.int (59 : Int32), .ref 191, .ref 191] (mk c S72) from ?_)
                  obtain ⟨r74, S75, h76, H⟩ := bd_e H
                  refine J.callV (y := m_M_isSign) (av := [.int (59 : Int32)]) (rest := [.ref 191]) (q := 191) l_M_246 d_M_law_154 (isC_st rfl rfl) (c_M_isSign w (d + 807) c  S72 (59 : Int32) h76) rfl (Nat.le_of_ble_eq_true rfl) ⟨Nat.le_refl _, Nat.le_refl _⟩ (show J w (d + 809) m_M_law (n0, z0, some (.int z.1), mk c z.2) 157 [some (.ref 191), some (.int (x1 + (1 : Int32))), some (.int y13), none] [.int r74, .ref 191] (mk c S75) from ?_)
                  obtain ⟨r77, S78, h79, H⟩ := bd_e H
                  refine J.callV (y := m_M_must) (av := [.int r74]) (rest := []) (q := 191) l_M_231 d_M_law_157 (isC_st rfl rfl) (c_M_must w (d + 804) c  S75 r74 h79) rfl (Nat.le_of_ble_eq_true rfl) ⟨Nat.le_refl _, Nat.le_refl _⟩ (show J w (d + 809) m_M_law (n0, z0, some (.int z.1), mk c z.2) 160 [some (.ref 191), some (.int (x1 + (1 : Int32))), some (.int y13), none] [] (mk c S78) from ?_)
                  refine J.goto (tgt := 26) d_M_law_160 rfl ?_
                  refine J.mask [true, true, false, false] ?_
                  exact ih S78 (x1 + (1 : Int32)) H
          · have H := ite_f H q15
            refine J.run b_M_law_85_1 k_M_law_85_1 rfl (show J w (d + 809) m_M_law (n0, z0, some (.int z.1), mk c z.2) 86 [some (.ref 191), some (.int x1), some (.int y13), none] [.int y13, .ref 191] (mk c S12) from ?_)
            refine J.zlt (tgt := 93) d_M_law_86 rfl (fun q80 => ?_) (fun q80 => ?_)
            · have H := ite_t H q80
              refine J.run b_M_law_93_1 k_M_law_93_1 rfl (show J w (d + 809) m_M_law (n0, z0, some (.int z.1), mk c z.2) 94 [some (.ref 191), some (.int x1), some (.int y13), none] [.int (0 : Int32), .ref 191] (mk c S12) from ?_)
              obtain ⟨r81, S82, h83, H⟩ := bd_e H
              refine J.callV (y := m_M_must) (av := [.int (0 : Int32)]) (rest := []) (q := 191) l_M_231 d_M_law_94 (isC_st rfl rfl) (c_M_must w (d + 804) c  S12 (0 : Int32) h83) rfl (Nat.le_of_ble_eq_true rfl) ⟨Nat.le_refl _, Nat.le_refl _⟩ (show J w (d + 809) m_M_law (n0, z0, some (.int z.1), mk c z.2) 97 [some (.ref 191), some (.int x1), some (.int y13), none] [] (mk c S82) from ?_)
              refine J.run b_M_law_97_2 k_M_law_97_2 rfl (And.intro (okO_st (S := S82) rfl) (show J w (d + 809) m_M_law (n0, z0, some (.int z.1), mk c z.2) 101 [some (.ref 191), some (.int x1), some (.int y13), none] [.int (gI S82 191 9)] (mk c S82) from ?_))
              refine J.zne (tgt := 124) d_M_law_101 rfl (fun q84 => ?_) (fun q84 => ?_)
              · have H := ite_f H q84
                refine J.run b_M_law_124_2 k_M_law_124_2 rfl (And.intro (okO_st (S := S82) rfl) (show J w (d + 809) m_M_law (n0, z0, some (.int z.1), mk c z.2) 128 [some (.ref 191), some (.int x1), some (.int y13), none] [.int (gI S82 191 9)] (mk c S82) from ?_))
                refine J.zne (tgt := 150) d_M_law_128 rfl (fun q85 => ?_) (fun q85 => ?_)
                · have H := ite_f H q85
                  refine J.run b_M_law_150_3 k_M_law_150_3 rfl (show J w (d + 809) m_M_law (n0, z0, some (.int z.1), mk c z.2) 154 [some (.ref 191), some (.int x1), some (.int y13), none] [.int (59 : Int32), .ref 191, .ref 191] (mk c S82) from ?_)
                  obtain ⟨r86, S87, h88, H⟩ := bd_e H
                  refine J.callV (y := m_M_isSign) (av := [.int (59 : Int32)]) (rest := [.ref 191]) (q := 191) l_M_246 d_M_law_154 (isC_st rfl rfl) (c_M_isSign w (d + 807) c  S82 (59 : Int32) h88) rfl (Nat.le_of_ble_eq_true rfl) ⟨Nat.le_refl _, Nat.le_refl _⟩ (show J w (d + 809) m_M_law (n0, z0, some (.int z.1), mk c z.2) 157 [some (.ref 191), some (.int x1), some (.int y13), none] [.int r86, .ref 191] (mk c S87) from ?_)
                  obtain ⟨r89, S90, h91, H⟩ := bd_e H
                  refine J.callV (y := m_M_must) (av := [.int r86]) (rest := []) (q := 191) l_M_231 d_M_law_157 (isC_st rfl rfl) (c_M_must w (d + 804) c  S87 r86 h91) rfl (Nat.le_of_ble_eq_true rfl) ⟨Nat.le_refl _, Nat.le_refl _⟩ (show J w (d + 809) m_M_law (n0, z0, some (.int z.1), mk c z.2) 160 [some (.ref 191), some (.int x1), some (.int y13), none] [] (mk c S90) from ?_)
                  refine J.goto (tgt := 26) d_M_law_160 rfl ?_
                  refine J.mask [true, true, false, false] ?_
                  exact ih S90 x1 H
                · have H := ite_t H q85
                  refine J.run b_M_law_131_1 k_M_law_131_1 rfl (show J w (d + 809) m_M_law (n0, z0, some (.int z.1), mk c z.2) 132 [some (.ref 191), some (.int x1), some (.int y13), none] [.ref 191] (mk c S82) from ?_)
                  refine J.ldcw (k := 12) (List.mem_of_getElem? (i := 28) rfl) d_M_law_132 (show J w (d + 809) m_M_law (n0, z0, some (.int z.1), mk c z.2) 135 [some (.ref 191), some (.int x1), some (.int y13), none] [.ref 12, .ref 191] (mk c S82) from ?_)
                  obtain ⟨r92, S93, h94, H⟩ := bd_e H
                  refine J.callV (y := m_M_isWord) (av := [.ref 12]) (rest := []) (q := 191) l_M_227 d_M_law_135 (isC_st rfl rfl) (c_M_isWord w (d + 802) c  S82 12 (by decide) h94) rfl (Nat.le_of_ble_eq_true rfl) ⟨Nat.le_refl _, Nat.le_refl _⟩ (show J w (d + 809) m_M_law (n0, z0, some (.int z.1), mk c z.2) 138 [some (.ref 191), some (.int x1), some (.int y13), none] [.int r92] (mk c S93) from ?_)
                  refine J.zeq (tgt := 150) d_M_law_138 rfl (fun q95 => ?_) (fun q95 => ?_)
                  · have H := ite_t H q95
                    refine J.run b_M_law_150_3 k_M_law_150_3 rfl (show J w (d + 809) m_M_law (n0, z0, some (.int z.1), mk c z.2) 154 [some (.ref 191), some (.int x1), some (.int y13), none] [.int (59 : Int32), .ref 191, .ref 191] (mk c S93) from ?_)
                    obtain ⟨r96, S97, h98, H⟩ := bd_e H
                    refine J.callV (y := m_M_isSign) (av := [.int (59 : Int32)]) (rest := [.ref 191]) (q := 191) l_M_246 d_M_law_154 (isC_st rfl rfl) (c_M_isSign w (d + 807) c  S93 (59 : Int32) h98) rfl (Nat.le_of_ble_eq_true rfl) ⟨Nat.le_refl _, Nat.le_refl _⟩ (show J w (d + 809) m_M_law (n0, z0, some (.int z.1), mk c z.2) 157 [some (.ref 191), some (.int x1), some (.int y13), none] [.int r96, .ref 191] (mk c S97) from ?_)
                    obtain ⟨r99, S100, h101, H⟩ := bd_e H
                    refine J.callV (y := m_M_must) (av := [.int r96]) (rest := []) (q := 191) l_M_231 d_M_law_157 (isC_st rfl rfl) (c_M_must w (d + 804) c  S97 r96 h101) rfl (Nat.le_of_ble_eq_true rfl) ⟨Nat.le_refl _, Nat.le_refl _⟩ (show J w (d + 809) m_M_law (n0, z0, some (.int z.1), mk c z.2) 160 [some (.ref 191), some (.int x1), some (.int y13), none] [] (mk c S100) from ?_)
                    refine J.goto (tgt := 26) d_M_law_160 rfl ?_
                    refine J.mask [true, true, false, false] ?_
                    exact ih S100 x1 H
                  · have H := ite_f H q95
                    refine J.run b_M_law_141_2 k_M_law_141_2 rfl (show J w (d + 809) m_M_law (n0, z0, some (.int z.1), mk c z.2) 143 [some (.ref 191), some (.int x1), some (.int y13), none] [.int (1 : Int32), .ref 191] (mk c S93) from ?_)
                    obtain ⟨r102, S103, h104, H⟩ := bd_e H
                    refine J.callV (y := m_M_must) (av := [.int (1 : Int32)]) (rest := []) (q := 191) l_M_231 d_M_law_143 (isC_st rfl rfl) (c_M_must w (d + 804) c  S93 (1 : Int32) h104) rfl (Nat.le_of_ble_eq_true rfl) ⟨Nat.le_refl _, Nat.le_refl _⟩ (show J w (d + 809) m_M_law (n0, z0, some (.int z.1), mk c z.2) 146 [some (.ref 191), some (.int x1), some (.int y13), none] [] (mk c S103) from ?_)
                    refine J.run b_M_law_146_1 k_M_law_146_1 rfl (show J w (d + 809) m_M_law (n0, z0, some (.int z.1), mk c z.2) 147 [some (.ref 191), some (.int x1), some (.int y13), none] [.ref 191] (mk c S103) from ?_)
                    obtain ⟨r105, S106, h107, H⟩ := bd_e H
                    refine J.callV (y := m_M_condition) (av := []) (rest := []) (q := 191) l_M_252 d_M_law_147 (isC_st rfl rfl) (c_M_condition w (d + 800) c (oc_close w (d + 800) (by omega) c) S103 h107) rfl (Nat.le_of_ble_eq_true rfl) ⟨Nat.le_refl _, Nat.le_refl _⟩ (show J w (d + 809) m_M_law (n0, z0, some (.int z.1), mk c z.2) 150 [some (.ref 191), some (.int x1), some (.int y13), none] [] (mk c S106) from ?_)
                    refine J.run b_M_law_150_3 k_M_law_150_3 rfl (show J w (d + 809) m_M_law (n0, z0, some (.int z.1), mk c z.2) 154 [some (.ref 191), some (.int x1), some (.int y13), none] [.int (59 : Int32), .ref 191, .ref 191] (mk c S106) from ?_)
                    obtain ⟨r108, S109, h110, H⟩ := bd_e H
                    refine J.callV (y := m_M_isSign) (av := [.int (59 : Int32)]) (rest := [.ref 191]) (q := 191) l_M_246 d_M_law_154 (isC_st rfl rfl) (c_M_isSign w (d + 807) c  S106 (59 : Int32) h110) rfl (Nat.le_of_ble_eq_true rfl) ⟨Nat.le_refl _, Nat.le_refl _⟩ (show J w (d + 809) m_M_law (n0, z0, some (.int z.1), mk c z.2) 157 [some (.ref 191), some (.int x1), some (.int y13), none] [.int r108, .ref 191] (mk c S109) from ?_)
                    obtain ⟨r111, S112, h113, H⟩ := bd_e H
                    refine J.callV (y := m_M_must) (av := [.int r108]) (rest := []) (q := 191) l_M_231 d_M_law_157 (isC_st rfl rfl) (c_M_must w (d + 804) c  S109 r108 h113) rfl (Nat.le_of_ble_eq_true rfl) ⟨Nat.le_refl _, Nat.le_refl _⟩ (show J w (d + 809) m_M_law (n0, z0, some (.int z.1), mk c z.2) 160 [some (.ref 191), some (.int x1), some (.int y13), none] [] (mk c S112) from ?_)
                    refine J.goto (tgt := 26) d_M_law_160 rfl ?_
                    refine J.mask [true, true, false, false] ?_
                    exact ih S112 x1 H
              · have H := ite_t H q84
                obtain ⟨g114, H⟩ := ck_e H
                obtain ⟨g115, H⟩ := ck_e H
                refine J.run b_M_law_104_14 k_M_law_104_14 rfl (And.intro (okO_st (S := S82) rfl) (And.intro (okO_st (S := S82) rfl) (And.intro (okB_st (S := S82) (n := 9) rfl g114) (And.intro (okO_st (S := (uI S82 198 (x1).toNatClampNeg (gI S82 191 12))) rfl) (And.intro (okB_st (S := (uI S82 198 (x1).toNatClampNeg (gI S82 191 12))) (n := 8) rfl g115) (And.intro (okO_st (S := (uI (uI S82 198 (x1).toNatClampNeg (gI S82 191 12)) 199 (x1).toNatClampNeg y13)) rfl) (show J w (d + 809) m_M_law (n0, z0, some (.int z.1), mk c z.2) 128 [some (.ref 191), some (.int (x1 + (1 : Int32))), some (.int y13), none] [.int (gI (uI (uI S82 198 (x1).toNatClampNeg (gI S82 191 12)) 199 (x1).toNatClampNeg y13) 191 9)] (mk c (uI (uI S82 198 (x1).toNatClampNeg (gI S82 191 12)) 199 (x1).toNatClampNeg y13)) from ?_)))))))
                refine J.zne (tgt := 150) d_M_law_128 rfl (fun q116 => ?_) (fun q116 => ?_)
                · have H := ite_f H q116
                  refine J.run b_M_law_150_3 k_M_law_150_3 rfl (show J w (d + 809) m_M_law (n0, z0, some (.int z.1), mk c z.2) 154 [some (.ref 191), some (.int (x1 + (1 : Int32))), some (.int y13), none] [.int (59 : Int32), .ref 191, .ref 191] (mk c (uI (uI S82 198 (x1).toNatClampNeg (gI S82 191 12)) 199 (x1).toNatClampNeg y13)) from ?_)
                  obtain ⟨r117, S118, h119, H⟩ := bd_e H
                  refine J.callV (y := m_M_isSign) (av := [.int (59 : Int32)]) (rest := [.ref 191]) (q := 191) l_M_246 d_M_law_154 (isC_st rfl rfl) (c_M_isSign w (d + 807) c  (uI (uI S82 198 (x1).toNatClampNeg (gI S82 191 12)) 199 (x1).toNatClampNeg y13) (59 : Int32) h119) rfl (Nat.le_of_ble_eq_true rfl) ⟨Nat.le_refl _, Nat.le_refl _⟩ (show J w (d + 809) m_M_law (n0, z0, some (.int z.1), mk c z.2) 157 [some (.ref 191), some (.int (x1 + (1 : Int32))), some (.int y13), none] [.int r117, .ref 191] (mk c S118) from ?_)
                  obtain ⟨r120, S121, h122, H⟩ := bd_e H
                  refine J.callV (y := m_M_must) (av := [.int r117]) (rest := []) (q := 191) l_M_231 d_M_law_157 (isC_st rfl rfl) (c_M_must w (d + 804) c  S118 r117 h122) rfl (Nat.le_of_ble_eq_true rfl) ⟨Nat.le_refl _, Nat.le_refl _⟩ (show J w (d + 809) m_M_law (n0, z0, some (.int z.1), mk c z.2) 160 [some (.ref 191), some (.int (x1 + (1 : Int32))), some (.int y13), none] [] (mk c S121) from ?_)
                  refine J.goto (tgt := 26) d_M_law_160 rfl ?_
                  refine J.mask [true, true, false, false] ?_
                  exact ih S121 (x1 + (1 : Int32)) H
                · have H := ite_t H q116
                  refine J.run b_M_law_131_1 k_M_law_131_1 rfl (show J w (d + 809) m_M_law (n0, z0, some (.int z.1), mk c z.2) 132 [some (.ref 191), some (.int (x1 + (1 : Int32))), some (.int y13), none] [.ref 191] (mk c (uI (uI S82 198 (x1).toNatClampNeg (gI S82 191 12)) 199 (x1).toNatClampNeg y13)) from ?_)
                  refine J.ldcw (k := 12) (List.mem_of_getElem? (i := 28) rfl) d_M_law_132 (show J w (d + 809) m_M_law (n0, z0, some (.int z.1), mk c z.2) 135 [some (.ref 191), some (.int (x1 + (1 : Int32))), some (.int y13), none] [.ref 12, .ref 191] (mk c (uI (uI S82 198 (x1).toNatClampNeg (gI S82 191 12)) 199 (x1).toNatClampNeg y13)) from ?_)
                  obtain ⟨r123, S124, h125, H⟩ := bd_e H
                  refine J.callV (y := m_M_isWord) (av := [.ref 12]) (rest := []) (q := 191) l_M_227 d_M_law_135 (isC_st rfl rfl) (c_M_isWord w (d + 802) c  (uI (uI S82 198 (x1).toNatClampNeg (gI S82 191 12)) 199 (x1).toNatClampNeg y13) 12 (by decide) h125) rfl (Nat.le_of_ble_eq_true rfl) ⟨Nat.le_refl _, Nat.le_refl _⟩ (show J w (d + 809) m_M_law (n0, z0, some (.int z.1), mk c z.2) 138 [some (.ref 191), some (.int (x1 + (1 : Int32))), some (.int y13), none] [.int r123] (mk c S124) from ?_)
                  refine J.zeq (tgt := 150) d_M_law_138 rfl (fun q126 => ?_) (fun q126 => ?_)
                  · have H := ite_t H q126
                    refine J.run b_M_law_150_3 k_M_law_150_3 rfl (show J w (d + 809) m_M_law (n0, z0, some (.int z.1), mk c z.2) 154 [some (.ref 191), some (.int (x1 + (1 : Int32))), some (.int y13), none] [.int (59 : Int32), .ref 191, .ref 191] (mk c S124) from ?_)
                    obtain ⟨r127, S128, h129, H⟩ := bd_e H
                    refine J.callV (y := m_M_isSign) (av := [.int (59 : Int32)]) (rest := [.ref 191]) (q := 191) l_M_246 d_M_law_154 (isC_st rfl rfl) (c_M_isSign w (d + 807) c  S124 (59 : Int32) h129) rfl (Nat.le_of_ble_eq_true rfl) ⟨Nat.le_refl _, Nat.le_refl _⟩ (show J w (d + 809) m_M_law (n0, z0, some (.int z.1), mk c z.2) 157 [some (.ref 191), some (.int (x1 + (1 : Int32))), some (.int y13), none] [.int r127, .ref 191] (mk c S128) from ?_)
                    obtain ⟨r130, S131, h132, H⟩ := bd_e H
                    refine J.callV (y := m_M_must) (av := [.int r127]) (rest := []) (q := 191) l_M_231 d_M_law_157 (isC_st rfl rfl) (c_M_must w (d + 804) c  S128 r127 h132) rfl (Nat.le_of_ble_eq_true rfl) ⟨Nat.le_refl _, Nat.le_refl _⟩ (show J w (d + 809) m_M_law (n0, z0, some (.int z.1), mk c z.2) 160 [some (.ref 191), some (.int (x1 + (1 : Int32))), some (.int y13), none] [] (mk c S131) from ?_)
                    refine J.goto (tgt := 26) d_M_law_160 rfl ?_
                    refine J.mask [true, true, false, false] ?_
                    exact ih S131 (x1 + (1 : Int32)) H
                  · have H := ite_f H q126
                    refine J.run b_M_law_141_2 k_M_law_141_2 rfl (show J w (d + 809) m_M_law (n0, z0, some (.int z.1), mk c z.2) 143 [some (.ref 191), some (.int (x1 + (1 : Int32))), some (.int y13), none] [.int (1 : Int32), .ref 191] (mk c S124) from ?_)
                    obtain ⟨r133, S134, h135, H⟩ := bd_e H
                    refine J.callV (y := m_M_must) (av := [.int (1 : Int32)]) (rest := []) (q := 191) l_M_231 d_M_law_143 (isC_st rfl rfl) (c_M_must w (d + 804) c  S124 (1 : Int32) h135) rfl (Nat.le_of_ble_eq_true rfl) ⟨Nat.le_refl _, Nat.le_refl _⟩ (show J w (d + 809) m_M_law (n0, z0, some (.int z.1), mk c z.2) 146 [some (.ref 191), some (.int (x1 + (1 : Int32))), some (.int y13), none] [] (mk c S134) from ?_)
                    refine J.run b_M_law_146_1 k_M_law_146_1 rfl (show J w (d + 809) m_M_law (n0, z0, some (.int z.1), mk c z.2) 147 [some (.ref 191), some (.int (x1 + (1 : Int32))), some (.int y13), none] [.ref 191] (mk c S134) from ?_)
                    obtain ⟨r136, S137, h138, H⟩ := bd_e H
                    refine J.callV (y := m_M_condition) (av := []) (rest := []) (q := 191) l_M_252 d_M_law_147 (isC_st rfl rfl) (c_M_condition w (d + 800) c (oc_close w (d + 800) (by omega) c) S134 h138) rfl (Nat.le_of_ble_eq_true rfl) ⟨Nat.le_refl _, Nat.le_refl _⟩ (show J w (d + 809) m_M_law (n0, z0, some (.int z.1), mk c z.2) 150 [some (.ref 191), some (.int (x1 + (1 : Int32))), some (.int y13), none] [] (mk c S137) from ?_)
                    refine J.run b_M_law_150_3 k_M_law_150_3 rfl (show J w (d + 809) m_M_law (n0, z0, some (.int z.1), mk c z.2) 154 [some (.ref 191), some (.int (x1 + (1 : Int32))), some (.int y13), none] [.int (59 : Int32), .ref 191, .ref 191] (mk c S137) from ?_)
                    obtain ⟨r139, S140, h141, H⟩ := bd_e H
                    refine J.callV (y := m_M_isSign) (av := [.int (59 : Int32)]) (rest := [.ref 191]) (q := 191) l_M_246 d_M_law_154 (isC_st rfl rfl) (c_M_isSign w (d + 807) c  S137 (59 : Int32) h141) rfl (Nat.le_of_ble_eq_true rfl) ⟨Nat.le_refl _, Nat.le_refl _⟩ (show J w (d + 809) m_M_law (n0, z0, some (.int z.1), mk c z.2) 157 [some (.ref 191), some (.int (x1 + (1 : Int32))), some (.int y13), none] [.int r139, .ref 191] (mk c S140) from ?_)
                    obtain ⟨r142, S143, h144, H⟩ := bd_e H
                    refine J.callV (y := m_M_must) (av := [.int r139]) (rest := []) (q := 191) l_M_231 d_M_law_157 (isC_st rfl rfl) (c_M_must w (d + 804) c  S140 r139 h144) rfl (Nat.le_of_ble_eq_true rfl) ⟨Nat.le_refl _, Nat.le_refl _⟩ (show J w (d + 809) m_M_law (n0, z0, some (.int z.1), mk c z.2) 160 [some (.ref 191), some (.int (x1 + (1 : Int32))), some (.int y13), none] [] (mk c S143) from ?_)
                    refine J.goto (tgt := 26) d_M_law_160 rfl ?_
                    refine J.mask [true, true, false, false] ?_
                    exact ih S143 (x1 + (1 : Int32)) H
            · have H := ite_f H q80
              refine J.run b_M_law_89_1 k_M_law_89_1 rfl (show J w (d + 809) m_M_law (n0, z0, some (.int z.1), mk c z.2) 90 [some (.ref 191), some (.int x1), some (.int y13), none] [.int (1 : Int32), .ref 191] (mk c S12) from ?_)
              refine J.goto (tgt := 94) d_M_law_90 rfl ?_
              obtain ⟨r145, S146, h147, H⟩ := bd_e H
              refine J.callV (y := m_M_must) (av := [.int (1 : Int32)]) (rest := []) (q := 191) l_M_231 d_M_law_94 (isC_st rfl rfl) (c_M_must w (d + 804) c  S12 (1 : Int32) h147) rfl (Nat.le_of_ble_eq_true rfl) ⟨Nat.le_refl _, Nat.le_refl _⟩ (show J w (d + 809) m_M_law (n0, z0, some (.int z.1), mk c z.2) 97 [some (.ref 191), some (.int x1), some (.int y13), none] [] (mk c S146) from ?_)
              refine J.run b_M_law_97_2 k_M_law_97_2 rfl (And.intro (okO_st (S := S146) rfl) (show J w (d + 809) m_M_law (n0, z0, some (.int z.1), mk c z.2) 101 [some (.ref 191), some (.int x1), some (.int y13), none] [.int (gI S146 191 9)] (mk c S146) from ?_))
              refine J.zne (tgt := 124) d_M_law_101 rfl (fun q148 => ?_) (fun q148 => ?_)
              · have H := ite_f H q148
                refine J.run b_M_law_124_2 k_M_law_124_2 rfl (And.intro (okO_st (S := S146) rfl) (show J w (d + 809) m_M_law (n0, z0, some (.int z.1), mk c z.2) 128 [some (.ref 191), some (.int x1), some (.int y13), none] [.int (gI S146 191 9)] (mk c S146) from ?_))
                refine J.zne (tgt := 150) d_M_law_128 rfl (fun q149 => ?_) (fun q149 => ?_)
                · have H := ite_f H q149
                  refine J.run b_M_law_150_3 k_M_law_150_3 rfl (show J w (d + 809) m_M_law (n0, z0, some (.int z.1), mk c z.2) 154 [some (.ref 191), some (.int x1), some (.int y13), none] [.int (59 : Int32), .ref 191, .ref 191] (mk c S146) from ?_)
                  obtain ⟨r150, S151, h152, H⟩ := bd_e H
                  refine J.callV (y := m_M_isSign) (av := [.int (59 : Int32)]) (rest := [.ref 191]) (q := 191) l_M_246 d_M_law_154 (isC_st rfl rfl) (c_M_isSign w (d + 807) c  S146 (59 : Int32) h152) rfl (Nat.le_of_ble_eq_true rfl) ⟨Nat.le_refl _, Nat.le_refl _⟩ (show J w (d + 809) m_M_law (n0, z0, some (.int z.1), mk c z.2) 157 [some (.ref 191), some (.int x1), some (.int y13), none] [.int r150, .ref 191] (mk c S151) from ?_)
                  obtain ⟨r153, S154, h155, H⟩ := bd_e H
                  refine J.callV (y := m_M_must) (av := [.int r150]) (rest := []) (q := 191) l_M_231 d_M_law_157 (isC_st rfl rfl) (c_M_must w (d + 804) c  S151 r150 h155) rfl (Nat.le_of_ble_eq_true rfl) ⟨Nat.le_refl _, Nat.le_refl _⟩ (show J w (d + 809) m_M_law (n0, z0, some (.int z.1), mk c z.2) 160 [some (.ref 191), some (.int x1), some (.int y13), none] [] (mk c S154) from ?_)
                  refine J.goto (tgt := 26) d_M_law_160 rfl ?_
                  refine J.mask [true, true, false, false] ?_
                  exact ih S154 x1 H
                · have H := ite_t H q149
                  refine J.run b_M_law_131_1 k_M_law_131_1 rfl (show J w (d + 809) m_M_law (n0, z0, some (.int z.1), mk c z.2) 132 [some (.ref 191), some (.int x1), some (.int y13), none] [.ref 191] (mk c S146) from ?_)
                  refine J.ldcw (k := 12) (List.mem_of_getElem? (i := 28) rfl) d_M_law_132 (show J w (d + 809) m_M_law (n0, z0, some (.int z.1), mk c z.2) 135 [some (.ref 191), some (.int x1), some (.int y13), none] [.ref 12, .ref 191] (mk c S146) from ?_)
                  obtain ⟨r156, S157, h158, H⟩ := bd_e H
                  refine J.callV (y := m_M_isWord) (av := [.ref 12]) (rest := []) (q := 191) l_M_227 d_M_law_135 (isC_st rfl rfl) (c_M_isWord w (d + 802) c  S146 12 (by decide) h158) rfl (Nat.le_of_ble_eq_true rfl) ⟨Nat.le_refl _, Nat.le_refl _⟩ (show J w (d + 809) m_M_law (n0, z0, some (.int z.1), mk c z.2) 138 [some (.ref 191), some (.int x1), some (.int y13), none] [.int r156] (mk c S157) from ?_)
                  refine J.zeq (tgt := 150) d_M_law_138 rfl (fun q159 => ?_) (fun q159 => ?_)
                  · have H := ite_t H q159
                    refine J.run b_M_law_150_3 k_M_law_150_3 rfl (show J w (d + 809) m_M_law (n0, z0, some (.int z.1), mk c z.2) 154 [some (.ref 191), some (.int x1), some (.int y13), none] [.int (59 : Int32), .ref 191, .ref 191] (mk c S157) from ?_)
                    obtain ⟨r160, S161, h162, H⟩ := bd_e H
                    refine J.callV (y := m_M_isSign) (av := [.int (59 : Int32)]) (rest := [.ref 191]) (q := 191) l_M_246 d_M_law_154 (isC_st rfl rfl) (c_M_isSign w (d + 807) c  S157 (59 : Int32) h162) rfl (Nat.le_of_ble_eq_true rfl) ⟨Nat.le_refl _, Nat.le_refl _⟩ (show J w (d + 809) m_M_law (n0, z0, some (.int z.1), mk c z.2) 157 [some (.ref 191), some (.int x1), some (.int y13), none] [.int r160, .ref 191] (mk c S161) from ?_)
                    obtain ⟨r163, S164, h165, H⟩ := bd_e H
                    refine J.callV (y := m_M_must) (av := [.int r160]) (rest := []) (q := 191) l_M_231 d_M_law_157 (isC_st rfl rfl) (c_M_must w (d + 804) c  S161 r160 h165) rfl (Nat.le_of_ble_eq_true rfl) ⟨Nat.le_refl _, Nat.le_refl _⟩ (show J w (d + 809) m_M_law (n0, z0, some (.int z.1), mk c z.2) 160 [some (.ref 191), some (.int x1), some (.int y13), none] [] (mk c S164) from ?_)
                    refine J.goto (tgt := 26) d_M_law_160 rfl ?_
                    refine J.mask [true, true, false, false] ?_
                    exact ih S164 x1 H
                  · have H := ite_f H q159
                    refine J.run b_M_law_141_2 k_M_law_141_2 rfl (show J w (d + 809) m_M_law (n0, z0, some (.int z.1), mk c z.2) 143 [some (.ref 191), some (.int x1), some (.int y13), none] [.int (1 : Int32), .ref 191] (mk c S157) from ?_)
                    obtain ⟨r166, S167, h168, H⟩ := bd_e H
                    refine J.callV (y := m_M_must) (av := [.int (1 : Int32)]) (rest := []) (q := 191) l_M_231 d_M_law_143 (isC_st rfl rfl) (c_M_must w (d + 804) c  S157 (1 : Int32) h168) rfl (Nat.le_of_ble_eq_true rfl) ⟨Nat.le_refl _, Nat.le_refl _⟩ (show J w (d + 809) m_M_law (n0, z0, some (.int z.1), mk c z.2) 146 [some (.ref 191), some (.int x1), some (.int y13), none] [] (mk c S167) from ?_)
                    refine J.run b_M_law_146_1 k_M_law_146_1 rfl (show J w (d + 809) m_M_law (n0, z0, some (.int z.1), mk c z.2) 147 [some (.ref 191), some (.int x1), some (.int y13), none] [.ref 191] (mk c S167) from ?_)
                    obtain ⟨r169, S170, h171, H⟩ := bd_e H
                    refine J.callV (y := m_M_condition) (av := []) (rest := []) (q := 191) l_M_252 d_M_law_147 (isC_st rfl rfl) (c_M_condition w (d + 800) c (oc_close w (d + 800) (by omega) c) S167 h171) rfl (Nat.le_of_ble_eq_true rfl) ⟨Nat.le_refl _, Nat.le_refl _⟩ (show J w (d + 809) m_M_law (n0, z0, some (.int z.1), mk c z.2) 150 [some (.ref 191), some (.int x1), some (.int y13), none] [] (mk c S170) from ?_)
                    refine J.run b_M_law_150_3 k_M_law_150_3 rfl (show J w (d + 809) m_M_law (n0, z0, some (.int z.1), mk c z.2) 154 [some (.ref 191), some (.int x1), some (.int y13), none] [.int (59 : Int32), .ref 191, .ref 191] (mk c S170) from ?_)
                    obtain ⟨r172, S173, h174, H⟩ := bd_e H
                    refine J.callV (y := m_M_isSign) (av := [.int (59 : Int32)]) (rest := [.ref 191]) (q := 191) l_M_246 d_M_law_154 (isC_st rfl rfl) (c_M_isSign w (d + 807) c  S170 (59 : Int32) h174) rfl (Nat.le_of_ble_eq_true rfl) ⟨Nat.le_refl _, Nat.le_refl _⟩ (show J w (d + 809) m_M_law (n0, z0, some (.int z.1), mk c z.2) 157 [some (.ref 191), some (.int x1), some (.int y13), none] [.int r172, .ref 191] (mk c S173) from ?_)
                    obtain ⟨r175, S176, h177, H⟩ := bd_e H
                    refine J.callV (y := m_M_must) (av := [.int r172]) (rest := []) (q := 191) l_M_231 d_M_law_157 (isC_st rfl rfl) (c_M_must w (d + 804) c  S173 r172 h177) rfl (Nat.le_of_ble_eq_true rfl) ⟨Nat.le_refl _, Nat.le_refl _⟩ (show J w (d + 809) m_M_law (n0, z0, some (.int z.1), mk c z.2) 160 [some (.ref 191), some (.int x1), some (.int y13), none] [] (mk c S176) from ?_)
                    refine J.goto (tgt := 26) d_M_law_160 rfl ?_
                    refine J.mask [true, true, false, false] ?_
                    exact ih S176 x1 H
              · have H := ite_t H q148
                obtain ⟨g178, H⟩ := ck_e H
                obtain ⟨g179, H⟩ := ck_e H
                refine J.run b_M_law_104_14 k_M_law_104_14 rfl (And.intro (okO_st (S := S146) rfl) (And.intro (okO_st (S := S146) rfl) (And.intro (okB_st (S := S146) (n := 9) rfl g178) (And.intro (okO_st (S := (uI S146 198 (x1).toNatClampNeg (gI S146 191 12))) rfl) (And.intro (okB_st (S := (uI S146 198 (x1).toNatClampNeg (gI S146 191 12))) (n := 8) rfl g179) (And.intro (okO_st (S := (uI (uI S146 198 (x1).toNatClampNeg (gI S146 191 12)) 199 (x1).toNatClampNeg y13)) rfl) (show J w (d + 809) m_M_law (n0, z0, some (.int z.1), mk c z.2) 128 [some (.ref 191), some (.int (x1 + (1 : Int32))), some (.int y13), none] [.int (gI (uI (uI S146 198 (x1).toNatClampNeg (gI S146 191 12)) 199 (x1).toNatClampNeg y13) 191 9)] (mk c (uI (uI S146 198 (x1).toNatClampNeg (gI S146 191 12)) 199 (x1).toNatClampNeg y13)) from ?_)))))))
                refine J.zne (tgt := 150) d_M_law_128 rfl (fun q180 => ?_) (fun q180 => ?_)
                · have H := ite_f H q180
                  refine J.run b_M_law_150_3 k_M_law_150_3 rfl (show J w (d + 809) m_M_law (n0, z0, some (.int z.1), mk c z.2) 154 [some (.ref 191), some (.int (x1 + (1 : Int32))), some (.int y13), none] [.int (59 : Int32), .ref 191, .ref 191] (mk c (uI (uI S146 198 (x1).toNatClampNeg (gI S146 191 12)) 199 (x1).toNatClampNeg y13)) from ?_)
                  obtain ⟨r181, S182, h183, H⟩ := bd_e H
                  refine J.callV (y := m_M_isSign) (av := [.int (59 : Int32)]) (rest := [.ref 191]) (q := 191) l_M_246 d_M_law_154 (isC_st rfl rfl) (c_M_isSign w (d + 807) c  (uI (uI S146 198 (x1).toNatClampNeg (gI S146 191 12)) 199 (x1).toNatClampNeg y13) (59 : Int32) h183) rfl (Nat.le_of_ble_eq_true rfl) ⟨Nat.le_refl _, Nat.le_refl _⟩ (show J w (d + 809) m_M_law (n0, z0, some (.int z.1), mk c z.2) 157 [some (.ref 191), some (.int (x1 + (1 : Int32))), some (.int y13), none] [.int r181, .ref 191] (mk c S182) from ?_)
                  obtain ⟨r184, S185, h186, H⟩ := bd_e H
                  refine J.callV (y := m_M_must) (av := [.int r181]) (rest := []) (q := 191) l_M_231 d_M_law_157 (isC_st rfl rfl) (c_M_must w (d + 804) c  S182 r181 h186) rfl (Nat.le_of_ble_eq_true rfl) ⟨Nat.le_refl _, Nat.le_refl _⟩ (show J w (d + 809) m_M_law (n0, z0, some (.int z.1), mk c z.2) 160 [some (.ref 191), some (.int (x1 + (1 : Int32))), some (.int y13), none] [] (mk c S185) from ?_)
                  refine J.goto (tgt := 26) d_M_law_160 rfl ?_
                  refine J.mask [true, true, false, false] ?_
                  exact ih S185 (x1 + (1 : Int32)) H
                · have H := ite_t H q180
                  refine J.run b_M_law_131_1 k_M_law_131_1 rfl (show J w (d + 809) m_M_law (n0, z0, some (.int z.1), mk c z.2) 132 [some (.ref 191), some (.int (x1 + (1 : Int32))), some (.int y13), none] [.ref 191] (mk c (uI (uI S146 198 (x1).toNatClampNeg (gI S146 191 12)) 199 (x1).toNatClampNeg y13)) from ?_)
                  refine J.ldcw (k := 12) (List.mem_of_getElem? (i := 28) rfl) d_M_law_132 (show J w (d + 809) m_M_law (n0, z0, some (.int z.1), mk c z.2) 135 [some (.ref 191), some (.int (x1 + (1 : Int32))), some (.int y13), none] [.ref 12, .ref 191] (mk c (uI (uI S146 198 (x1).toNatClampNeg (gI S146 191 12)) 199 (x1).toNatClampNeg y13)) from ?_)
                  obtain ⟨r187, S188, h189, H⟩ := bd_e H
                  refine J.callV (y := m_M_isWord) (av := [.ref 12]) (rest := []) (q := 191) l_M_227 d_M_law_135 (isC_st rfl rfl) (c_M_isWord w (d + 802) c  (uI (uI S146 198 (x1).toNatClampNeg (gI S146 191 12)) 199 (x1).toNatClampNeg y13) 12 (by decide) h189) rfl (Nat.le_of_ble_eq_true rfl) ⟨Nat.le_refl _, Nat.le_refl _⟩ (show J w (d + 809) m_M_law (n0, z0, some (.int z.1), mk c z.2) 138 [some (.ref 191), some (.int (x1 + (1 : Int32))), some (.int y13), none] [.int r187] (mk c S188) from ?_)
                  refine J.zeq (tgt := 150) d_M_law_138 rfl (fun q190 => ?_) (fun q190 => ?_)
                  · have H := ite_t H q190
                    refine J.run b_M_law_150_3 k_M_law_150_3 rfl (show J w (d + 809) m_M_law (n0, z0, some (.int z.1), mk c z.2) 154 [some (.ref 191), some (.int (x1 + (1 : Int32))), some (.int y13), none] [.int (59 : Int32), .ref 191, .ref 191] (mk c S188) from ?_)
                    obtain ⟨r191, S192, h193, H⟩ := bd_e H
                    refine J.callV (y := m_M_isSign) (av := [.int (59 : Int32)]) (rest := [.ref 191]) (q := 191) l_M_246 d_M_law_154 (isC_st rfl rfl) (c_M_isSign w (d + 807) c  S188 (59 : Int32) h193) rfl (Nat.le_of_ble_eq_true rfl) ⟨Nat.le_refl _, Nat.le_refl _⟩ (show J w (d + 809) m_M_law (n0, z0, some (.int z.1), mk c z.2) 157 [some (.ref 191), some (.int (x1 + (1 : Int32))), some (.int y13), none] [.int r191, .ref 191] (mk c S192) from ?_)
                    obtain ⟨r194, S195, h196, H⟩ := bd_e H
                    refine J.callV (y := m_M_must) (av := [.int r191]) (rest := []) (q := 191) l_M_231 d_M_law_157 (isC_st rfl rfl) (c_M_must w (d + 804) c  S192 r191 h196) rfl (Nat.le_of_ble_eq_true rfl) ⟨Nat.le_refl _, Nat.le_refl _⟩ (show J w (d + 809) m_M_law (n0, z0, some (.int z.1), mk c z.2) 160 [some (.ref 191), some (.int (x1 + (1 : Int32))), some (.int y13), none] [] (mk c S195) from ?_)
                    refine J.goto (tgt := 26) d_M_law_160 rfl ?_
                    refine J.mask [true, true, false, false] ?_
                    exact ih S195 (x1 + (1 : Int32)) H
                  · have H := ite_f H q190
                    refine J.run b_M_law_141_2 k_M_law_141_2 rfl (show J w (d + 809) m_M_law (n0, z0, some (.int z.1), mk c z.2) 143 [some (.ref 191), some (.int (x1 + (1 : Int32))), some (.int y13), none] [.int (1 : Int32), .ref 191] (mk c S188) from ?_)
                    obtain ⟨r197, S198, h199, H⟩ := bd_e H
                    refine J.callV (y := m_M_must) (av := [.int (1 : Int32)]) (rest := []) (q := 191) l_M_231 d_M_law_143 (isC_st rfl rfl) (c_M_must w (d + 804) c  S188 (1 : Int32) h199) rfl (Nat.le_of_ble_eq_true rfl) ⟨Nat.le_refl _, Nat.le_refl _⟩ (show J w (d + 809) m_M_law (n0, z0, some (.int z.1), mk c z.2) 146 [some (.ref 191), some (.int (x1 + (1 : Int32))), some (.int y13), none] [] (mk c S198) from ?_)
                    refine J.run b_M_law_146_1 k_M_law_146_1 rfl (show J w (d + 809) m_M_law (n0, z0, some (.int z.1), mk c z.2) 147 [some (.ref 191), some (.int (x1 + (1 : Int32))), some (.int y13), none] [.ref 191] (mk c S198) from ?_)
                    obtain ⟨r200, S201, h202, H⟩ := bd_e H
                    refine J.callV (y := m_M_condition) (av := []) (rest := []) (q := 191) l_M_252 d_M_law_147 (isC_st rfl rfl) (c_M_condition w (d + 800) c (oc_close w (d + 800) (by omega) c) S198 h202) rfl (Nat.le_of_ble_eq_true rfl) ⟨Nat.le_refl _, Nat.le_refl _⟩ (show J w (d + 809) m_M_law (n0, z0, some (.int z.1), mk c z.2) 150 [some (.ref 191), some (.int (x1 + (1 : Int32))), some (.int y13), none] [] (mk c S201) from ?_)
                    refine J.run b_M_law_150_3 k_M_law_150_3 rfl (show J w (d + 809) m_M_law (n0, z0, some (.int z.1), mk c z.2) 154 [some (.ref 191), some (.int (x1 + (1 : Int32))), some (.int y13), none] [.int (59 : Int32), .ref 191, .ref 191] (mk c S201) from ?_)
                    obtain ⟨r203, S204, h205, H⟩ := bd_e H
                    refine J.callV (y := m_M_isSign) (av := [.int (59 : Int32)]) (rest := [.ref 191]) (q := 191) l_M_246 d_M_law_154 (isC_st rfl rfl) (c_M_isSign w (d + 807) c  S201 (59 : Int32) h205) rfl (Nat.le_of_ble_eq_true rfl) ⟨Nat.le_refl _, Nat.le_refl _⟩ (show J w (d + 809) m_M_law (n0, z0, some (.int z.1), mk c z.2) 157 [some (.ref 191), some (.int (x1 + (1 : Int32))), some (.int y13), none] [.int r203, .ref 191] (mk c S204) from ?_)
                    obtain ⟨r206, S207, h208, H⟩ := bd_e H
                    refine J.callV (y := m_M_must) (av := [.int r203]) (rest := []) (q := 191) l_M_231 d_M_law_157 (isC_st rfl rfl) (c_M_must w (d + 804) c  S204 r203 h208) rfl (Nat.le_of_ble_eq_true rfl) ⟨Nat.le_refl _, Nat.le_refl _⟩ (show J w (d + 809) m_M_law (n0, z0, some (.int z.1), mk c z.2) 160 [some (.ref 191), some (.int (x1 + (1 : Int32))), some (.int y13), none] [] (mk c S207) from ?_)
                    refine J.goto (tgt := 26) d_M_law_160 rfl ?_
                    refine J.mask [true, true, false, false] ?_
                    exact ih S207 (x1 + (1 : Int32)) H
theorem lo_M_law_192 (w : Wd) (d : Nat) (c : cx) {n0 z0 : Nat} {z : Int32 × hs}  {K0 : hs → Int32 → Option (Int32 × hs)} (x1 : Int32)   (hK0 : ∀ (S : hs) (x2 : Int32), K0 S x2 = some z → J w (d + 809) m_M_law (n0, z0, some (.int z.1), mk c z.2) 235 [some (.ref 191), some (.int x1), none, none] [] (mk c S)) :
    ∀ (n : Nat) (S : hs) (x2 : Int32), lp_M_law_192 x1 K0 n S x2 = some z → J w (d + 809) m_M_law (n0, z0, some (.int z.1), mk c z.2) 192 [some (.ref 191), some (.int x1), some (.int x2), none] [] (mk c S) := by
  intro n
  induction n with
  | zero => intro S x2 H; cases H
  | succ n ih =>
    intro S x2 H
    rw [lp_M_law_192] at H
    refine J.run b_M_law_192_2 k_M_law_192_2 rfl (show J w (d + 809) m_M_law (n0, z0, some (.int z.1), mk c z.2) 194 [some (.ref 191), some (.int x1), some (.int x2), none] [.int x1, .int x2] (mk c S) from ?_)
    refine J.cge (tgt := 235) d_M_law_194 rfl (fun q212 => ?_) (fun q212 => ?_)
    · have H := ite_t H q212
      refine J.mask [true, true, false, false] ?_
      exact hK0 S x2 H
    · have H := ite_f H q212
      obtain ⟨g213, H⟩ := ck_e H
      obtain ⟨g214, H⟩ := ck_e H
      obtain ⟨g215, H⟩ := ck_e H
      obtain ⟨g216, H⟩ := ck_e H
      refine J.run b_M_law_197_21 k_M_law_197_21 rfl (And.intro (okO_st (S := S) rfl) (And.intro (okO_st (S := S) rfl) (And.intro (okA_st (S := S) (n := 9) rfl g213) (And.intro (okB_st (S := S) (n := 358) rfl g214) (And.intro (okO_st (S := (uI S 192 (((341 : Int32) + x2)).toNatClampNeg (gI S 198 (x2).toNatClampNeg))) rfl) (And.intro (okO_st (S := (uI S 192 (((341 : Int32) + x2)).toNatClampNeg (gI S 198 (x2).toNatClampNeg))) rfl) (And.intro (okA_st (S := (uI S 192 (((341 : Int32) + x2)).toNatClampNeg (gI S 198 (x2).toNatClampNeg))) (n := 8) rfl g215) (And.intro (okB_st (S := (uI S 192 (((341 : Int32) + x2)).toNatClampNeg (gI S 198 (x2).toNatClampNeg))) (n := 358) rfl g216) (show J w (d + 809) m_M_law (n0, z0, some (.int z.1), mk c z.2) 232 [some (.ref 191), some (.int x1), some (.int (x2 + (1 : Int32))), none] [] (mk c (uI (uI S 192 (((341 : Int32) + x2)).toNatClampNeg (gI S 198 (x2).toNatClampNeg)) 192 (((350 : Int32) + x2)).toNatClampNeg (gI (uI S 192 (((341 : Int32) + x2)).toNatClampNeg (gI S 198 (x2).toNatClampNeg)) 199 (x2).toNatClampNeg))) from ?_)))))))))
      refine J.goto (tgt := 192) d_M_law_232 rfl ?_
      refine J.mask [true, true, true, false] ?_
      exact ih (uI (uI S 192 (((341 : Int32) + x2)).toNatClampNeg (gI S 198 (x2).toNatClampNeg)) 192 (((350 : Int32) + x2)).toNatClampNeg (gI (uI S 192 (((341 : Int32) + x2)).toNatClampNeg (gI S 198 (x2).toNatClampNeg)) 199 (x2).toNatClampNeg)) (x2 + (1 : Int32)) H
theorem lo_M_law_251 (w : Wd) (d : Nat) (c : cx) {n0 z0 : Nat} {z : Int32 × hs}   (x1 : Int32)    :
    ∀ (n : Nat) (S : hs) (x2 : Int32), lp_M_law_251 x1 n S x2 = some z → J w (d + 809) m_M_law (n0, z0, some (.int z.1), mk c z.2) 251 [some (.ref 191), some (.int x1), some (.int x2), none] [] (mk c S) := by
  intro n
  induction n with
  | zero => intro S x2 H; cases H
  | succ n ih =>
    intro S x2 H
    rw [lp_M_law_251] at H
    refine J.run b_M_law_251_3 k_M_law_251_3 rfl (And.intro (okO_st (S := S) rfl) (show J w (d + 809) m_M_law (n0, z0, some (.int z.1), mk c z.2) 256 [some (.ref 191), some (.int x1), some (.int x2), none] [.int (gI S 191 12), .int x2] (mk c S) from ?_))
    refine J.cge (tgt := 281) d_M_law_256 rfl (fun q220 => ?_) (fun q220 => ?_)
    · have H := ite_t H q220
      refine J.run b_M_law_281_1 k_M_law_281_1 rfl (show J w (d + 809) m_M_law (n0, z0, some (.int z.1), mk c z.2) 282 [some (.ref 191), some (.int x1), some (.int x2), none] [.int x1] (mk c S) from ?_)
      obtain rfl := some_e H
      exact J.iret d_M_law_282 rfl rfl
    · have H := ite_f H q220
      obtain ⟨g221, H⟩ := ck_e H
      obtain ⟨g222, H⟩ := ck_e H
      refine J.run b_M_law_259_11 k_M_law_259_11 rfl (And.intro (okO_st (S := S) rfl) (And.intro (okO_st (S := S) rfl) (And.intro (okA_st (S := S) (n := 200) rfl g221) (And.intro (okB_st (S := S) (n := 358) rfl g222) (show J w (d + 809) m_M_law (n0, z0, some (.int z.1), mk c z.2) 278 [some (.ref 191), some (.int x1), some (.int (x2 + (1 : Int32))), none] [] (mk c (uI S 192 (((141 : Int32) + x2)).toNatClampNeg (gI S 195 (x2).toNatClampNeg))) from ?_)))))
      refine J.goto (tgt := 251) d_M_law_278 rfl ?_
      refine J.mask [true, true, true, false] ?_
      exact ih (uI S 192 (((141 : Int32) + x2)).toNatClampNeg (gI S 195 (x2).toNatClampNeg)) (x2 + (1 : Int32)) H
theorem c_M_law (w : Wd) (d : Nat) (c : cx)   (S : hs)   {z : Int32 × hs} (H : f_M_law S = some z) : Cl w (d + 809) m_M_law [.ref 191] (mk c S) (some (.int z.1)) (mk c z.2) := by
  refine Cl.of (Nat.le_refl _) (Nat.le_refl _) (by decide +kernel) (Nat.le_of_ble_eq_true rfl) ?_
  unfold f_M_law at H
  generalize hN (mk c S) = n0
  generalize hZ (mk c S) = z0
  show J w (d + 809) m_M_law (n0, z0, some (.int z.1), mk c z.2) 0 [some (.ref 191), none, none, none] [] (mk c S)
  refine J.run b_M_law_0_13 k_M_law_0_13 rfl (And.intro (okO_st (S := S) rfl) (And.intro (okO_st (S := (uI S 191 7 (0 : Int32))) rfl) (And.intro (by decide) (And.intro (okO_st (S := (uI (uI S 191 7 (0 : Int32)) 191 9 (0 : Int32))) rfl) (And.intro (okO_st (S := (uI (uI (uI S 191 7 (0 : Int32)) 191 9 (0 : Int32)) 191 10 (0 : Int32))) rfl) (show J w (d + 809) m_M_law (n0, z0, some (.int z.1), mk c z.2) 21 [some (.ref 191), none, none, none] [.ref 191] (mk c (uI (uI (uI (uI S 191 7 (0 : Int32)) 191 9 (0 : Int32)) 191 10 (0 : Int32)) 191 12 (0 : Int32))) from ?_))))))
  obtain ⟨r1, S2, h3, H⟩ := bd_e H
  refine J.callV (y := m_M_next) (av := []) (rest := []) (q := 191) l_M_216 d_M_law_21 (isC_st rfl rfl) (c_M_next w (d + 805) c  (uI (uI (uI (uI S 191 7 (0 : Int32)) 191 9 (0 : Int32)) 191 10 (0 : Int32)) 191 12 (0 : Int32)) h3) rfl (Nat.le_of_ble_eq_true rfl) ⟨Nat.le_refl _, Nat.le_refl _⟩ (show J w (d + 809) m_M_law (n0, z0, some (.int z.1), mk c z.2) 24 [some (.ref 191), none, none, none] [] (mk c S2) from ?_)
  refine J.run b_M_law_24_2 k_M_law_24_2 rfl (show J w (d + 809) m_M_law (n0, z0, some (.int z.1), mk c z.2) 26 [some (.ref 191), some (.int (0 : Int32)), none, none] [] (mk c S2) from ?_)
  refine J.mask [true, true, false, false] ?_
  refine lo_M_law_26 w d c  ?_ 1000 S2 (0 : Int32) H
  · intro S209 y210 H
    try dsimp only at H
    refine J.run b_M_law_163_5 k_M_law_163_5 rfl (And.intro (okO_st (S := S209) rfl) (And.intro (okO_st (S := (uI S209 191 5 (0 : Int32))) rfl) (show J w (d + 809) m_M_law (n0, z0, some (.int z.1), mk c z.2) 172 [some (.ref 191), some (.int y210), none, none] [.int (gI (uI S209 191 5 (0 : Int32)) 191 9)] (mk c (uI S209 191 5 (0 : Int32))) from ?_)))
    refine J.zeq (tgt := 183) d_M_law_172 rfl (fun q211 => ?_) (fun q211 => ?_)
    · have H := ite_t H q211
      refine J.run b_M_law_183_7 k_M_law_183_7 rfl (And.intro (okO_st (S := (uI S209 191 5 (0 : Int32))) rfl) (And.intro (okB_st (S := (uI S209 191 5 (0 : Int32))) (n := 358) rfl rfl) (show J w (d + 809) m_M_law (n0, z0, some (.int z.1), mk c z.2) 192 [some (.ref 191), some (.int y210), some (.int (0 : Int32)), none] [] (mk c (uI (uI S209 191 5 (0 : Int32)) 192 4 y210)) from ?_)))
      refine J.mask [true, true, true, false] ?_
      refine lo_M_law_192 w d c y210 ?_ 1000 (uI (uI S209 191 5 (0 : Int32)) 192 4 y210) (0 : Int32) H
      · intro S217 y218 H
        try dsimp only at H
        obtain ⟨g219, H⟩ := ck_e H
        refine J.run b_M_law_235_10 k_M_law_235_10 rfl (And.intro (okO_st (S := S217) rfl) (And.intro (okO_st (S := S217) rfl) (And.intro (okB_st (S := S217) (n := 358) rfl g219) (show J w (d + 809) m_M_law (n0, z0, some (.int z.1), mk c z.2) 251 [some (.ref 191), some (.int y210), some (.int (0 : Int32)), none] [] (mk c (uI S217 192 (((341 : Int32) + y210)).toNatClampNeg (gI S217 191 12))) from ?_))))
        refine J.mask [true, true, true, false] ?_
        refine lo_M_law_251 w d c y210  1000 (uI S217 192 (((341 : Int32) + y210)).toNatClampNeg (gI S217 191 12)) (0 : Int32) H
    · have H := ite_f H q211
      refine J.run b_M_law_175_4 k_M_law_175_4 rfl (And.intro (okO_st (S := (uI S209 191 5 (0 : Int32))) rfl) (show J w (d + 809) m_M_law (n0, z0, some (.int z.1), mk c z.2) 182 [some (.ref 191), some (.int y210), none, none] [.int ((-100 : Int32) - (gI (uI S209 191 5 (0 : Int32)) 191 6))] (mk c (uI S209 191 5 (0 : Int32))) from ?_))
      obtain rfl := some_e H
      exact J.iret d_M_law_182 rfl rfl
