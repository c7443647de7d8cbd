/-! The law's loop: from its head, over any script of at most 2560 ints, to its end. -/
/-- the next state of things: the two still agree, and at most one thing more lives -/
def Nx (Inv : cx → hs → Prop) (k : cx) : cx → hs → Prop := fun k1 S2 => Inv k1 S2 ∧ k1.1 ≤ k.1 + 1
def Ls_0 (w : Wd) (D : Nat) (Inv : cx → hs → Prop) : Prop := ∀ (k : cx) (S : hs), Inv k S → k.1 ≤ 600 → ∀ (a0 : Int32) (a1 : Int32), Sp2 w D m_X_crossing m_M_crossing [.int a0, .int a1] k S (Nx Inv k)
def Ls_1 (w : Wd) (D : Nat) (Inv : cx → hs → Prop) : Prop := ∀ (k : cx) (S : hs), Inv k S → k.1 ≤ 600 → ∀ (a0 : Int32) (a1 : Int32), Sp2 w D m_X_crossingOf m_M_crossingOf [.int a0, .int a1] k S (Nx Inv k)
def Ls_2 (w : Wd) (D : Nat) (Inv : cx → hs → Prop) : Prop := ∀ (k : cx) (S : hs), Inv k S → k.1 ≤ 600 → ∀ (a0 : Int32) (a1 : Int32) (a2 : Int32) (a3 : Int32), Sp2 w D m_X_street m_M_street [.int a0, .int a1, .int a2, .int (if a3 = 0 then (0 : Int32) else 1)] k S (Nx Inv k)
def Ls_3 (w : Wd) (D : Nat) (Inv : cx → hs → Prop) : Prop := ∀ (k : cx) (S : hs), Inv k S → k.1 ≤ 600 → ∀ (a0 : Int32) (a1 : Int32), Sp2 w D m_X_streetOf m_M_streetOf [.int a0, .int a1] k S (Nx Inv k)
def Ls_4 (w : Wd) (D : Nat) (Inv : cx → hs → Prop) : Prop := ∀ (k : cx) (S : hs), Inv k S → k.1 ≤ 600 → ∀ (a0 : Int32) (a1 : Int32), Sp2 w D m_X_shut m_M_shut [.int a0, .int (if a1 = 0 then (0 : Int32) else 1)] k S (Nx Inv k)
def Ls_5 (w : Wd) (D : Nat) (Inv : cx → hs → Prop) : Prop := ∀ (k : cx) (S : hs), Inv k S → k.1 ≤ 600 → ∀ (a0 : Int32) (a1 : Int32), Sp2 w D m_X_widen m_M_widen [.int a0, .int a1] k S (Nx Inv k)
def Ls_6 (w : Wd) (D : Nat) (Inv : cx → hs → Prop) : Prop := ∀ (k : cx) (S : hs), Inv k S → k.1 ≤ 600 → ∀ (a0 : Int32), Sp2 w D m_X_day m_M_day [.int a0] k S (Nx Inv k)
def Ls_7 (w : Wd) (D : Nat) (Inv : cx → hs → Prop) : Prop := ∀ (k : cx) (S : hs), Inv k S → k.1 ≤ 600 → ∀ (a0 : Int64) (a1 : Int32), Sp2 w D m_X_feed m_M_feed [.long a0, .int a1] k S (Nx Inv k)
def Ls_8 (w : Wd) (D : Nat) (Inv : cx → hs → Prop) : Prop := ∀ (k : cx) (S : hs), Inv k S → k.1 ≤ 600 → Sp2 w D m_X_law m_M_law [] k S (Nx Inv k)
def Ls_9 (w : Wd) (D : Nat) (Inv : cx → hs → Prop) : Prop := ∀ (k : cx) (S : hs), Inv k S → k.1 ≤ 600 → ∀ (a0 : Int32) (a1 : Int32), Sp2 w D m_X_turn m_M_turn [.int a0, .int a1] k S (Nx Inv k)
def Ls_10 (w : Wd) (D : Nat) (Inv : cx → hs → Prop) : Prop := ∀ (k : cx) (S : hs), Inv k S → k.1 ≤ 600 → ∀ (a0 : Int32) (a1 : Int32) (a2 : Int32), Sp2 w D m_X_may m_M_may [.int a0, .int a1, .int a2] k S (Nx Inv k)
def Ls_11 (w : Wd) (D : Nat) (Inv : cx → hs → Prop) : Prop := ∀ (k : cx) (S : hs), Inv k S → k.1 ≤ 600 → ∀ (a0 : Int32) (a1 : Int32), Sp2 w D m_X_walker m_M_walker [.int a0, .int a1] k S (Nx Inv k)
def Ls_12 (w : Wd) (D : Nat) (Inv : cx → hs → Prop) : Prop := ∀ (k : cx) (S : hs), Inv k S → k.1 ≤ 600 → ∀ (a0 : Int32) (a1 : Int32), Sp2 w D m_X_walkerOf m_M_walkerOf [.int a0, .int a1] k S (Nx Inv k)
def Ls_13 (w : Wd) (D : Nat) (Inv : cx → hs → Prop) : Prop := ∀ (k : cx) (S : hs), Inv k S → k.1 ≤ 600 → ∀ (a0 : Int32) (a1 : Int32), Sp2 w D m_X_go m_M_go [.int a0, .int a1] k S (Nx Inv k)
def Ls_14 (w : Wd) (D : Nat) (Inv : cx → hs → Prop) : Prop := ∀ (k : cx) (S : hs), Inv k S → k.1 ≤ 600 → ∀ (a0 : Int32) (a1 : Int32), Sp2 w D m_X_put m_M_put [.int a0, .int a1] k S (Nx Inv k)
def Ls_15 (w : Wd) (D : Nat) (Inv : cx → hs → Prop) : Prop := ∀ (k : cx) (S : hs), Inv k S → k.1 ≤ 600 → ∀ (a0 : Int32) (a1 : Int32) (a2 : Int32), Sp2 w D m_X_far m_M_far [.int a0, .int a1, .int a2] k S (Nx Inv k)
def Ls_16 (w : Wd) (D : Nat) (Inv : cx → hs → Prop) : Prop := ∀ (k : cx) (S : hs), Inv k S → k.1 ≤ 600 → ∀ (a0 : Int32) (a1 : Int32) (a2 : Int32), Sp2 w D m_X_first m_M_first [.int a0, .int a1, .int a2] k S (Nx Inv k)
def Ls_17 (w : Wd) (D : Nat) (Inv : cx → hs → Prop) : Prop := ∀ (k : cx) (S : hs), Inv k S → k.1 ≤ 600 → ∀ (a0 : Int32) (a1 : Int32), Sp2 w D m_X_free m_M_free [.int a0, .int a1] k S (Nx Inv k)
def Ls_18 (w : Wd) (D : Nat) (Inv : cx → hs → Prop) : Prop := ∀ (k : cx) (S : hs), Inv k S → k.1 ≤ 600 → ∀ (a0 : Int32) (a1 : Int32), Sp2 w D m_X_reach m_M_reach [.int a0, .int a1] k S (Nx Inv k)
def Ls_19 (w : Wd) (D : Nat) (Inv : cx → hs → Prop) : Prop := ∀ (k : cx) (S : hs), Inv k S → k.1 ≤ 600 → ∀ (a0 : Int32), Sp2 w D m_X_pairs m_M_pairs [.int a0] k S (Nx Inv k)
def Ls_20 (w : Wd) (D : Nat) (Inv : cx → hs → Prop) : Prop := ∀ (k : cx) (S : hs), Inv k S → k.1 ≤ 600 → ∀ (a0 : Int32), Sp2 w D m_X_never m_M_never [.int a0] k S (Nx Inv k)
def Ls_21 (w : Wd) (D : Nat) (Inv : cx → hs → Prop) : Prop := ∀ (k : cx) (S : hs), Inv k S → k.1 ≤ 600 → ∀ (a0 : Int32), Sp2 w D m_X_parts m_M_parts [.int a0] k S (Nx Inv k)
def Ls_22 (w : Wd) (D : Nat) (Inv : cx → hs → Prop) : Prop := ∀ (k : cx) (S : hs), Inv k S → k.1 ≤ 600 → ∀ (a0 : Int32) (a1 : Int32), Sp2 w D m_X_loop m_M_loop [.int a0, .int a1] k S (Nx Inv k)
def Ls_23 (w : Wd) (D : Nat) (Inv : cx → hs → Prop) : Prop := ∀ (k : cx) (S : hs), Inv k S → k.1 ≤ 600 → ∀ (a0 : Int32), Sp2 w D m_X_worst m_M_worst [.int a0] k S (Nx Inv k)
def Ls_24 (w : Wd) (D : Nat) (Inv : cx → hs → Prop) : Prop := ∀ (k : cx) (S : hs), Inv k S → k.1 ≤ 600 → ∀ (a0 : Int32), Sp2 w D m_X_opened m_M_opened [.int a0] k S (Nx Inv k)
def Ls_25 (w : Wd) (D : Nat) (Inv : cx → hs → Prop) : Prop := ∀ (k : cx) (S : hs), Inv k S → k.1 ≤ 600 → ∀ (a0 : Int32) (a1 : Int32) (a2 : Int32), Sp2 w D m_X_meet m_M_meet [.int a0, .int a1, .int a2] k S (Nx Inv k)
def Ls_26 (w : Wd) (D : Nat) (Inv : cx → hs → Prop) : Prop := ∀ (k : cx) (S : hs), Inv k S → k.1 ≤ 600 → ∀ (a0 : Int32), Sp2 w D m_X_other m_M_other [.int a0] k S (Nx Inv k)
def Ls_27 (w : Wd) (D : Nat) (Inv : cx → hs → Prop) : Prop := ∀ (k : cx) (S : hs), Inv k S → k.1 ≤ 600 → ∀ (a0 : Int32) (a1 : Int32), Sp2 w D m_X_prove m_M_prove [.int a0, .int a1] k S (Nx Inv k)
def Ls_28 (w : Wd) (D : Nat) (Inv : cx → hs → Prop) : Prop := ∀ (k : cx) (S : hs), Inv k S → k.1 ≤ 600 → ∀ (a0 : Int32) (a1 : Int32), Sp2 w D m_X_row m_M_row [.int a0, .int a1] k S (Nx Inv k)
def Ls_29 (w : Wd) (D : Nat) (Inv : cx → hs → Prop) : Prop := ∀ (k : cx) (S : hs), Inv k S → k.1 ≤ 600 → ∀ (a0 : Int32) (a1 : Int32) (a2 : Int32), Sp2 w D m_X_alterRow m_M_alterRow [.int a0, .int a1, .int a2] k S (Nx Inv k)
def Ls_30 (w : Wd) (D : Nat) (Inv : cx → hs → Prop) : Prop := ∀ (k : cx) (S : hs), Inv k S → k.1 ≤ 600 → ∀ (a0 : Int32), Sp2 w D m_X_judge m_M_judge [.int a0] k S (Nx Inv k)
def Ls_31 (w : Wd) (D : Nat) (Inv : cx → hs → Prop) : Prop := ∀ (k : cx) (S : hs), Inv k S → k.1 ≤ 600 → ∀ (a0 : Int32) (a1 : Int32) (a2 : Int32), Sp2 w D m_X_sheet m_M_sheet [.int a0, .int a1, .int a2] k S (Nx Inv k)
def Ls_32 (w : Wd) (D : Nat) (Inv : cx → hs → Prop) : Prop := ∀ (k : cx) (S : hs), Inv k S → k.1 ≤ 600 → ∀ (a0 : Int32) (a1 : Int32) (a2 : Int32), Sp2 w D m_X_write m_M_write [.int a0, .int a1, .int a2] k S (Nx Inv k)
def Ls_33 (w : Wd) (D : Nat) (Inv : cx → hs → Prop) : Prop := ∀ (k : cx) (S : hs), Inv k S → k.1 ≤ 600 → ∀ (a0 : Int32) (a1 : Int32) (a2 : Int32), Sp2 w D m_X_item m_M_item [.int a0, .int a1, .int a2] k S (Nx Inv k)
def Ls_34 (w : Wd) (D : Nat) (Inv : cx → hs → Prop) : Prop := ∀ (k : cx) (S : hs), Inv k S → k.1 ≤ 600 → ∀ (a0 : Int32) (a1 : Int32) (a2 : Int32), Sp2 w D m_X_wides m_M_wides [.int a0, .int a1, .int a2] k S (Nx Inv k)
def Ls_35 (w : Wd) (D : Nat) (Inv : cx → hs → Prop) : Prop := ∀ (k : cx) (S : hs), Inv k S → k.1 ≤ 600 → ∀ (a0 : Int32) (a1 : Int32) (a2 : Int32) (a3 : Int32), Sp2 w D m_X_shelf m_M_shelf [.int a0, .int a1, .int a2, .int a3] k S (Nx Inv k)
def Ls_36 (w : Wd) (D : Nat) (Inv : cx → hs → Prop) : Prop := ∀ (k : cx) (S : hs), Inv k S → k.1 ≤ 600 → ∀ (a0 : Int32) (a1 : Int32), Sp2 w D m_X_taken m_M_taken [.int a0, .int a1] k S (Nx Inv k)
def Ls_37 (w : Wd) (D : Nat) (Inv : cx → hs → Prop) : Prop := ∀ (k : cx) (S : hs), Inv k S → k.1 ≤ 600 → ∀ (a0 : Int32) (a1 : Int32) (a2 : Int32), Sp2 w D m_X_act m_M_act [.int a0, .int a1, .int a2] k S (Nx Inv k)
def Ls_38 (w : Wd) (D : Nat) (Inv : cx → hs → Prop) : Prop := ∀ (k : cx) (S : hs), Inv k S → k.1 ≤ 600 → ∀ (a0 : Int32), Sp2 w D m_X_trace m_M_trace [.int a0] k S (Nx Inv k)
def Ls_39 (w : Wd) (D : Nat) (Inv : cx → hs → Prop) : Prop := ∀ (k : cx) (S : hs), Inv k S → k.1 ≤ 600 → ∀ (a0 : Int32), Sp2 w D m_X_many m_M_many [.int a0] k S (Nx Inv k)
def Ls_40 (w : Wd) (D : Nat) (Inv : cx → hs → Prop) : Prop := ∀ (k : cx) (S : hs), Inv k S → k.1 ≤ 600 → Sp2 w D m_X_keep m_M_keep [] k S (Nx Inv k)
def Ls_41 (w : Wd) (D : Nat) (Inv : cx → hs → Prop) : Prop := ∀ (k : cx) (S : hs), Inv k S → k.1 ≤ 600 → Sp2 w D m_X_again m_M_again [] k S (Nx Inv k)
/-- every call of the law, in every state of things, has the same answer from both -/
def LawSt (w : Wd) (D : Nat) (Inv : cx → hs → Prop) : Prop := Ls_0 w D Inv ∧ Ls_1 w D Inv ∧ Ls_2 w D Inv ∧ Ls_3 w D Inv ∧ Ls_4 w D Inv ∧ Ls_5 w D Inv ∧ Ls_6 w D Inv ∧ Ls_7 w D Inv ∧ Ls_8 w D Inv ∧ Ls_9 w D Inv ∧ Ls_10 w D Inv ∧ Ls_11 w D Inv ∧ Ls_12 w D Inv ∧ Ls_13 w D Inv ∧ Ls_14 w D Inv ∧ Ls_15 w D Inv ∧ Ls_16 w D Inv ∧ Ls_17 w D Inv ∧ Ls_18 w D Inv ∧ Ls_19 w D Inv ∧ Ls_20 w D Inv ∧ Ls_21 w D Inv ∧ Ls_22 w D Inv ∧ Ls_23 w D Inv ∧ Ls_24 w D Inv ∧ Ls_25 w D Inv ∧ Ls_26 w D Inv ∧ Ls_27 w D Inv ∧ Ls_28 w D Inv ∧ Ls_29 w D Inv ∧ Ls_30 w D Inv ∧ Ls_31 w D Inv ∧ Ls_32 w D Inv ∧ Ls_33 w D Inv ∧ Ls_34 w D Inv ∧ Ls_35 w D Inv ∧ Ls_36 w D Inv ∧ Ls_37 w D Inv ∧ Ls_38 w D Inv ∧ Ls_39 w D Inv ∧ Ls_40 w D Inv ∧ Ls_41 w D Inv
theorem i32n {m : Nat} (h : m < 2147483648) : (Int32.ofNat m).toInt = (m : Int) := Int32.toInt_ofNat_of_lt h
theorem bm32 {z : Int} (h1 : -2147483648 ≤ z) (h2 : z < 2147483648) : z.bmod (2 ^ 32) = z := by
  unfold Int.bmod
  have e : ((2 ^ 32 : Nat) : Int) = 4294967296 := rfl
  rw [e]
  show (if z % 4294967296 < ((4294967296 : Int) + 1) / 2 then z % 4294967296 else z % 4294967296 - 4294967296) = z
  split <;> omega
theorem i32add {a b : Int32} (h1 : -2147483648 ≤ a.toInt + b.toInt) (h2 : a.toInt + b.toInt < 2147483648) : (a + b).toInt = a.toInt + b.toInt := by rw [Int32.toInt_add]; exact bm32 h1 h2
theorem i32sub {a b : Int32} (h1 : -2147483648 ≤ a.toInt - b.toInt) (h2 : a.toInt - b.toInt < 2147483648) : (a - b).toInt = a.toInt - b.toInt := by rw [Int32.toInt_sub]; exact bm32 h1 h2
theorem inb_n {m n : Nat} (h : m < n) (hn : n ≤ 2147483648) : inb (Int32.ofNat m) n = true := by
  have h1 := i32n (m := m) (by omega)
  unfold inb
  rw [Bool.and_eq_true]
  constructor
  · have : ¬ (Int32.ofNat m < 0) := by
      rw [Int32.lt_iff_toInt_lt, h1]
      show ¬ ((m : Int) < 0)
      omega
    rw [decide_eq_false this]; rfl
  · have e : (Int32.ofNat m).toNatClampNeg = m := by
      show (Int32.ofNat m).toInt.toNat = m
      rw [h1]; rfl
    rw [e]; exact Nat.ble_eq_true_of_le h
theorem inb_5 {m n u : Nat} (h : m + 5 ≤ n) (hn : n ≤ 2560) (hu : u < 5) : inb (Int32.ofNat m + Int32.ofNat u) n = true := by
  rw [← Int32.ofNat_add]; exact inb_n (by omega) (by omega)
section
variable {w : Wd} {p : Program} {e : Env} {s : State} {mid : MethodId} {b : Nat} {below : List Frame} {meth : Method} {c : Code}
theorem d_law_23 : decode m_law.2.1 23 = .ok (.if_icmp .gt (1627), 3) := by decide +kernel
theorem d_law_32 : decode m_law.2.1 32 = .ok (.tableswitch (1612) (0) (41) #[184, 217, 250, 319, 352, 401, 434, 457, 520, 533, 566, 609, 642, 675, 708, 741, 784, 827, 860, 893, 916, 939, 962, 995, 1018, 1041, 1084, 1107, 1140, 1173, 1216, 1239, 1282, 1325, 1368, 1411, 1464, 1497, 1540, 1563, 1586, 1599], 184) := by decide +kernel
theorem d_law_1647 : decode m_law.2.1 1647 = .ok (.goto (-1629), 3) := by decide +kernel
theorem d_law_1651 : decode m_law.2.1 1651 = .ok (.ireturn, 1) := by decide +kernel
def b_law_18 : List Ins := [(.iload_n 3, 0, 0, 0), (.aload_n 0, 0, 0, 0), (.arraylength, 0, 0, 0), (.iconst (5), 0, 0, 0), (.isub, 0, 0, 0)]
theorem k_law_18 : bok m_law 18 b_law_18 = true := by decide +kernel
def b_law_26 : List Ins := [(.aload_n 0, 0, 0, 0), (.iload_n 3, 0, 0, 0), (.iaload, 0, 0, 0), (.bipush (63), 0, 0, 0), (.iand, 0, 0, 0)]
theorem k_law_26 : bok m_law 26 b_law_26 = true := by decide +kernel
def b_law_1644 : List Ins := [(.iinc 3 (5), 0, 0, 0)]
theorem k_law_1644 : bok m_law 1644 b_law_1644 = true := by decide +kernel
def b_law_1650 : List Ins := [(.iconst (1), 0, 0, 0)]
theorem k_law_1650 : bok m_law 1650 b_law_1650 = true := by decide +kernel
theorem lw_end (C : Cx w m_law p s mid #[Value.ref b] meth c) (hB : wB w = s.heap.size) {L : Lc} {k : cx} {S : hs} (hk : k.1 ≤ 1000) : JL w p e s mid b below meth c 1650 L [] (mk k S) := by
  refine run_ok C b_law_1650 k_law_1650 (show JL w p e s mid b below meth c 1651 L [.int 1] (mk k S) from ?_)
  intro H locs ls hS hl hlo hn hz
  obtain ⟨hx, hb, hml, hown, hts, hr, hlk, hnm, hKU⟩ := id C
  have kk := k_le (S := S) hk
  refine W.widen (k := 600000) (n := 7302250) (by have := kk.1; show hN (mk k S) - 33 ≤ 600000; omega) (by have := kk.2; show hZ (mk k S) - 0 ≤ 7302250; omega) ?_
  rw [← List.nil_append locs]
  exact W.forget (fun q hq => hB ▸ hlo q hq) (lw_ret hx hb hr hlk d_law_1651)
theorem lwtI (C : Cx w m_law p s mid #[Value.ref b] meth c) {pc : Nat} {L : Lc} {st : List Value} {h : hp} {dflt lo hi : Int} {offs : Array Int} {len : Nat} {x : Int32} {off : Int} {tgt : Nat} (hd : decode m_law.2.1 pc = .ok (.tableswitch dflt lo hi offs, len)) (h1 : ¬ x.toInt < lo) (h2 : ¬ hi < x.toInt) (ho : offs[(x.toInt - lo).toNat]? = some off) (ht : (pc : Int) + off = (tgt : Int)) (k : JL w p e s mid b below meth c tgt L st h) : JL w p e s mid b below meth c pc L (.int x :: st) h :=
  fun H locs ls hS hl hlo hn hz => lv_tableIn C.1 C.2.1 hd h1 h2 ho ht (k H locs ls hS hl hlo hn hz)
theorem lwtO (C : Cx w m_law p s mid #[Value.ref b] meth c) {pc : Nat} {L : Lc} {st : List Value} {h : hp} {dflt lo hi : Int} {offs : Array Int} {len : Nat} {x : Int32} {tgt : Nat} (hd : decode m_law.2.1 pc = .ok (.tableswitch dflt lo hi offs, len)) (ho : x.toInt < lo ∨ hi < x.toInt) (ht : (pc : Int) + dflt = (tgt : Int)) (k : JL w p e s mid b below meth c tgt L st h) : JL w p e s mid b below meth c pc L (.int x :: st) h :=
  fun H locs ls hS hl hlo hn hz => lv_tableOut C.1 C.2.1 hd ho ht (k H locs ls hS hl hlo hn hz)
theorem cgL (C : Cx w m_law p s mid #[Value.ref b] meth c) {pc : Nat} {L : Lc} {st : List Value} {h : hp} {x y : Int32} {off : Int} {tgt : Nat} (hd : decode m_law.2.1 pc = .ok (.if_icmp .gt off, 3)) (ht : (pc : Int) + off = (tgt : Int)) (kt : y < x → JL w p e s mid b below meth c tgt L st h) (kf : ¬ y < x → JL w p e s mid b below meth c (pc + 3) L st h) : JL w p e s mid b below meth c pc L (.int y :: .int x :: st) h :=
  fun H locs ls hS hl hlo hn hz => lv_icmp_gt C.1 C.2.1 hd ht (fun z => kt z H locs ls hS hl hlo hn hz) (fun z => kf z H locs ls hS hl hlo hn hz)
set_option maxHeartbeats 4000000 in
theorem lw_loop {Inv : cx → hs → Prop} {D : Nat} (C : Cx w m_law p s mid #[Value.ref b] meth c) (hB : wB w = s.heap.size) (hD : D ≤ 2000) (hst : LawSt w D Inv) : ∀ (f j : Nat) (k : cx) (S : hs), Inv k S → k.1 ≤ j → 5 * j ≤ k.2.1 → k.2.1 ≤ 2560 → k.2.1 < 5 * j + f → JL w p e s mid b below meth c 18 [some (.ref 32), some (.ref 33), some (.ref 191), some (.int (Int32.ofNat (5 * j)))] [] (mk k S) := by
  intro f
  induction f with
  | zero => intro j k S _ _ h1 _ h2; omega
  | succ f ih =>
    intro j k S hI hj hjn hn hf
    refine run_ok C b_law_18 k_law_18 (And.intro okN_scr (show JL w p e s mid b below meth c 23 [some (.ref 32), some (.ref 33), some (.ref 191), some (.int (Int32.ofNat (5 * j)))] [.int (Int32.ofNat k.2.1 - 5), .int (Int32.ofNat (5 * j))] (mk k S) from ?_))
    have e1 : (Int32.ofNat k.2.1 - 5).toInt = (k.2.1 : Int) - 5 := by
      have a1 := i32n (m := k.2.1) (by omega)
      rw [i32sub (by rw [a1]; show (-2147483648 : Int) ≤ _ - 5; omega) (by rw [a1]; show _ - (5 : Int) < 2147483648; omega), a1]; rfl
    have e2 : (Int32.ofNat (5 * j)).toInt = ((5 * j : Nat) : Int) := i32n (by omega)
    refine cgL C (tgt := 1650) d_law_23 rfl (fun _ => lw_end C hB (by omega)) fun q => ?_
    rw [Int32.lt_iff_toInt_lt, e1, e2] at q
    have q5 : 5 * j + 5 ≤ k.2.1 := by omega
    have kk : ∀ k1 S2, k1.2.1 = k.2.1 → Nx Inv k k1 S2 → JL w p e s mid b below meth c 1644 [some (.ref 32), some (.ref 33), some (.ref 191), some (.int (Int32.ofNat (5 * j)))] [] (mk k1 S2) := by
      intro k1 S2 hk hN
      refine run_ok C b_law_1644 k_law_1644 (show JL w p e s mid b below meth c 1647 [some (.ref 32), some (.ref 33), some (.ref 191), some (.int (Int32.ofNat (5 * j) + 5))] [] (mk k1 S2) from ?_)
      refine lwg C (tgt := 18) d_law_1647 rfl ?_
      rw [show (Int32.ofNat (5 * j) + 5 : Int32) = Int32.ofNat (5 * (j + 1)) from (Int32.ofNat_add (5 * j) 5).symm]
      exact ih (j + 1) k1 S2 hN.1 (by have := hN.2; omega) (by omega) (by omega) (by omega)
    refine run_ok C b_law_26 k_law_26 (And.intro (okA_scr (inb_n (by omega) (by omega))) (show JL w p e s mid b below meth c 32 [some (.ref 32), some (.ref 33), some (.ref 191), some (.int (Int32.ofNat (5 * j)))] [.int (gI S 32 ((Int32.ofNat (5 * j))).toNatClampNeg &&& (63 : Int32))] (mk k S) from ?_))
    generalize (gI S 32 ((Int32.ofNat (5 * j))).toNatClampNeg &&& (63 : Int32)) = x
    have hk6 : k.1 ≤ 600 := by omega
    have g1 : inb (Int32.ofNat (5 * j) + (1 : Int32)) k.2.1 = true := inb_5 (u := 1) q5 hn (by decide)
    have g2 : inb (Int32.ofNat (5 * j) + (2 : Int32)) k.2.1 = true := inb_5 (u := 2) q5 hn (by decide)
    have g3 : inb (Int32.ofNat (5 * j) + (3 : Int32)) k.2.1 = true := inb_5 (u := 3) q5 hn (by decide)
    have g4 : inb (Int32.ofNat (5 * j) + (4 : Int32)) k.2.1 = true := inb_5 (u := 4) q5 hn (by decide)
    by_cases x0 : x.toInt < 0 ∨ 41 < x.toInt
    · exact lwtO C (tgt := 1644) d_law_32 x0 rfl (kk k S rfl ⟨hI, Nat.le_succ _⟩)
    have x1 : ¬ x.toInt < 0 := fun h => x0 (Or.inl h)
    have x2 : ¬ 41 < x.toInt := fun h => x0 (Or.inr h)
    have xe : ∃ n : Nat, x.toInt = (n : Int) ∧ n ≤ 41 := ⟨x.toInt.toNat, by omega, by omega⟩
    obtain ⟨n, xn, xl⟩ := xe
    obtain ⟨s0, s1, s2, s3, s4, s5, s6, s7, s8, s9, s10, s11, s12, s13, s14, s15, s16, s17, s18, s19, s20, s21, s22, s23, s24, s25, s26, s27, s28, s29, s30, s31, s32, s33, s34, s35, s36, s37, s38, s39, s40, s41⟩ := hst
    match n, xl, xn with
    | 0, _, xn => exact lwtI C (off := 184) (tgt := 216) d_law_32 x1 x2 (by rw [xn]; rfl) rfl (lc_0 C hD g1 g2 (s0 k S hI hk6 _ _) kk)
    | 1, _, xn => exact lwtI C (off := 217) (tgt := 249) d_law_32 x1 x2 (by rw [xn]; rfl) rfl (lc_1 C hD g1 g2 (s1 k S hI hk6 _ _) kk)
    | 2, _, xn => exact lwtI C (off := 250) (tgt := 282) d_law_32 x1 x2 (by rw [xn]; rfl) rfl (lc_2 C hD g1 g2 g3 g4 (s2 k S hI hk6 _ _ _ _) kk)
    | 3, _, xn => exact lwtI C (off := 319) (tgt := 351) d_law_32 x1 x2 (by rw [xn]; rfl) rfl (lc_3 C hD g1 g2 (s3 k S hI hk6 _ _) kk)
    | 4, _, xn => exact lwtI C (off := 352) (tgt := 384) d_law_32 x1 x2 (by rw [xn]; rfl) rfl (lc_4 C hD g1 g2 (s4 k S hI hk6 _ _) kk)
    | 5, _, xn => exact lwtI C (off := 401) (tgt := 433) d_law_32 x1 x2 (by rw [xn]; rfl) rfl (lc_5 C hD g1 g2 (s5 k S hI hk6 _ _) kk)
    | 6, _, xn => exact lwtI C (off := 434) (tgt := 466) d_law_32 x1 x2 (by rw [xn]; rfl) rfl (lc_6 C hD g1 (s6 k S hI hk6 _) kk)
    | 7, _, xn => exact lwtI C (off := 457) (tgt := 489) d_law_32 x1 x2 (by rw [xn]; rfl) rfl (lc_7 C hD g1 g2 g3 (s7 k S hI hk6 _ _) kk)
    | 8, _, xn => exact lwtI C (off := 520) (tgt := 552) d_law_32 x1 x2 (by rw [xn]; rfl) rfl (lc_8 C hD  (s8 k S hI hk6) kk)
    | 9, _, xn => exact lwtI C (off := 533) (tgt := 565) d_law_32 x1 x2 (by rw [xn]; rfl) rfl (lc_9 C hD g1 g2 (s9 k S hI hk6 _ _) kk)
    | 10, _, xn => exact lwtI C (off := 566) (tgt := 598) d_law_32 x1 x2 (by rw [xn]; rfl) rfl (lc_10 C hD g1 g2 g3 (s10 k S hI hk6 _ _ _) kk)
    | 11, _, xn => exact lwtI C (off := 609) (tgt := 641) d_law_32 x1 x2 (by rw [xn]; rfl) rfl (lc_11 C hD g1 g2 (s11 k S hI hk6 _ _) kk)
    | 12, _, xn => exact lwtI C (off := 642) (tgt := 674) d_law_32 x1 x2 (by rw [xn]; rfl) rfl (lc_12 C hD g1 g2 (s12 k S hI hk6 _ _) kk)
    | 13, _, xn => exact lwtI C (off := 675) (tgt := 707) d_law_32 x1 x2 (by rw [xn]; rfl) rfl (lc_13 C hD g1 g2 (s13 k S hI hk6 _ _) kk)
    | 14, _, xn => exact lwtI C (off := 708) (tgt := 740) d_law_32 x1 x2 (by rw [xn]; rfl) rfl (lc_14 C hD g1 g2 (s14 k S hI hk6 _ _) kk)
    | 15, _, xn => exact lwtI C (off := 741) (tgt := 773) d_law_32 x1 x2 (by rw [xn]; rfl) rfl (lc_15 C hD g1 g2 g3 (s15 k S hI hk6 _ _ _) kk)
    | 16, _, xn => exact lwtI C (off := 784) (tgt := 816) d_law_32 x1 x2 (by rw [xn]; rfl) rfl (lc_16 C hD g1 g2 g3 (s16 k S hI hk6 _ _ _) kk)
    | 17, _, xn => exact lwtI C (off := 827) (tgt := 859) d_law_32 x1 x2 (by rw [xn]; rfl) rfl (lc_17 C hD g1 g2 (s17 k S hI hk6 _ _) kk)
    | 18, _, xn => exact lwtI C (off := 860) (tgt := 892) d_law_32 x1 x2 (by rw [xn]; rfl) rfl (lc_18 C hD g1 g2 (s18 k S hI hk6 _ _) kk)
    | 19, _, xn => exact lwtI C (off := 893) (tgt := 925) d_law_32 x1 x2 (by rw [xn]; rfl) rfl (lc_19 C hD g1 (s19 k S hI hk6 _) kk)
    | 20, _, xn => exact lwtI C (off := 916) (tgt := 948) d_law_32 x1 x2 (by rw [xn]; rfl) rfl (lc_20 C hD g1 (s20 k S hI hk6 _) kk)
    | 21, _, xn => exact lwtI C (off := 939) (tgt := 971) d_law_32 x1 x2 (by rw [xn]; rfl) rfl (lc_21 C hD g1 (s21 k S hI hk6 _) kk)
    | 22, _, xn => exact lwtI C (off := 962) (tgt := 994) d_law_32 x1 x2 (by rw [xn]; rfl) rfl (lc_22 C hD g1 g2 (s22 k S hI hk6 _ _) kk)
    | 23, _, xn => exact lwtI C (off := 995) (tgt := 1027) d_law_32 x1 x2 (by rw [xn]; rfl) rfl (lc_23 C hD g1 (s23 k S hI hk6 _) kk)
    | 24, _, xn => exact lwtI C (off := 1018) (tgt := 1050) d_law_32 x1 x2 (by rw [xn]; rfl) rfl (lc_24 C hD g1 (s24 k S hI hk6 _) kk)
    | 25, _, xn => exact lwtI C (off := 1041) (tgt := 1073) d_law_32 x1 x2 (by rw [xn]; rfl) rfl (lc_25 C hD g1 g2 g3 (s25 k S hI hk6 _ _ _) kk)
    | 26, _, xn => exact lwtI C (off := 1084) (tgt := 1116) d_law_32 x1 x2 (by rw [xn]; rfl) rfl (lc_26 C hD g1 (s26 k S hI hk6 _) kk)
    | 27, _, xn => exact lwtI C (off := 1107) (tgt := 1139) d_law_32 x1 x2 (by rw [xn]; rfl) rfl (lc_27 C hD g1 g2 (s27 k S hI hk6 _ _) kk)
    | 28, _, xn => exact lwtI C (off := 1140) (tgt := 1172) d_law_32 x1 x2 (by rw [xn]; rfl) rfl (lc_28 C hD g1 g2 (s28 k S hI hk6 _ _) kk)
    | 29, _, xn => exact lwtI C (off := 1173) (tgt := 1205) d_law_32 x1 x2 (by rw [xn]; rfl) rfl (lc_29 C hD g1 g2 g3 (s29 k S hI hk6 _ _ _) kk)
    | 30, _, xn => exact lwtI C (off := 1216) (tgt := 1248) d_law_32 x1 x2 (by rw [xn]; rfl) rfl (lc_30 C hD g1 (s30 k S hI hk6 _) kk)
    | 31, _, xn => exact lwtI C (off := 1239) (tgt := 1271) d_law_32 x1 x2 (by rw [xn]; rfl) rfl (lc_31 C hD g1 g2 g3 (s31 k S hI hk6 _ _ _) kk)
    | 32, _, xn => exact lwtI C (off := 1282) (tgt := 1314) d_law_32 x1 x2 (by rw [xn]; rfl) rfl (lc_32 C hD g1 g2 g3 (s32 k S hI hk6 _ _ _) kk)
    | 33, _, xn => exact lwtI C (off := 1325) (tgt := 1357) d_law_32 x1 x2 (by rw [xn]; rfl) rfl (lc_33 C hD g1 g2 g3 (s33 k S hI hk6 _ _ _) kk)
    | 34, _, xn => exact lwtI C (off := 1368) (tgt := 1400) d_law_32 x1 x2 (by rw [xn]; rfl) rfl (lc_34 C hD g1 g2 g3 (s34 k S hI hk6 _ _ _) kk)
    | 35, _, xn => exact lwtI C (off := 1411) (tgt := 1443) d_law_32 x1 x2 (by rw [xn]; rfl) rfl (lc_35 C hD g1 g2 g3 g4 (s35 k S hI hk6 _ _ _ _) kk)
    | 36, _, xn => exact lwtI C (off := 1464) (tgt := 1496) d_law_32 x1 x2 (by rw [xn]; rfl) rfl (lc_36 C hD g1 g2 (s36 k S hI hk6 _ _) kk)
    | 37, _, xn => exact lwtI C (off := 1497) (tgt := 1529) d_law_32 x1 x2 (by rw [xn]; rfl) rfl (lc_37 C hD g1 g2 g3 (s37 k S hI hk6 _ _ _) kk)
    | 38, _, xn => exact lwtI C (off := 1540) (tgt := 1572) d_law_32 x1 x2 (by rw [xn]; rfl) rfl (lc_38 C hD g1 (s38 k S hI hk6 _) kk)
    | 39, _, xn => exact lwtI C (off := 1563) (tgt := 1595) d_law_32 x1 x2 (by rw [xn]; rfl) rfl (lc_39 C hD g1 (s39 k S hI hk6 _) kk)
    | 40, _, xn => exact lwtI C (off := 1586) (tgt := 1618) d_law_32 x1 x2 (by rw [xn]; rfl) rfl (lc_40 C hD  (s40 k S hI hk6) kk)
    | 41, _, xn => exact lwtI C (off := 1599) (tgt := 1631) d_law_32 x1 x2 (by rw [xn]; rfl) rfl (lc_41 C hD  (s41 k S hI hk6) kk)
    | n + 42, xl, _ => exact absurd xl (by omega)
end
