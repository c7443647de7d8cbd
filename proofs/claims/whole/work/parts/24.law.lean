-- ===== end of PART A; then your names; then what follows =====
/-! THE CLAIM OUT OF ONE WALK OF THE LAW'S BODY. Your part is whole_start (and what it stands on); all else here is the same for every law, but numbers. -/
def R_law : String := "LeftTownLaw"
def lw_P (b : Addr) (xs : List Int32) (args : Array Value) (s : State) : Prop := args = #[.ref b] ∧ s.IntsAt b xs ∧ xs.length ≤ 2560 ∧ (Jvm.Cond.and given_1 narrow_1).before args s = true
def lw_Q (_ : Array Value) (s : State) (o : Outcome) (t : State) : Prop := o = .returned (some (.int 1)) ∧ Framed s o t [] 600000 7302250
def lw_Z (below : List Frame) (a : Array Value) (s : State) : State → Prop := fun t => ∃ o, t.status = .running ∧ Ended t below o ∧ lw_Q a s o t
/-- the law's own end, with 1 on the stack, nothing written that was there before, its room as the claim has it -/
theorem lw_ret {p : Program} {l : Launch} {e : Env} {s : State} {m : MethodId} {below : List Frame} {meth : Method} {c : Code} {b : Nat} (hx : p.tables.exec = Jvm.exec) (hb : c.code = code) (hr : meth.sig.returnType = ret) (hlocks : meth.locks = false) {pc : Nat} {H : Heap} {ls : Array Slot} (hdg : decode code pc = .ok (.ireturn, 1)) : W p l e room_1 s m #[Value.ref b] below meth c H [] 600000 7302250 (lw_Z below #[Value.ref b] s) (F0 m pc ls [.int 1]) := by
  intro T hT X
  obtain ⟨fs, hret, hrun, hended, hW, hframe⟩ := X.leave (v := some (.int 1)) (hlocks := hlocks) (fun h => by rw [hr] at h; cases h)
  have hmeth' : T.vm.method? m = some meth := X.method'
  refine ⟨T.setFrames fs, ?_, .returned (some (.int 1)), hrun, hended, rfl, ⟨_, rfl⟩, hW, hframe⟩
  jvm_step X.here [X.here.top, hx, hb, hdg, hmeth', hr, ret, narrow_b1]
  (try refine ⟨rfl, ?_⟩); (try refine ⟨rfl, ?_⟩)
  first | (intro acts; rw [hret _ acts rfl rfl rfl]) | rw [hret _ _ rfl rfl rfl]
  exact Steps.refl _
/-- what holds at the law's entry: the machine, the code, the tables' words (any of lw_tbl by 'hts w (by decide +kernel)'), the script of L ints xs at the cell b, what the Statement gives of the start (any of its parts by flat_of_before) -/
def lw_At (p : Program) (s : State) (m : MethodId) (meth : Method) (c : Code) (b L : Nat) (xs : Nat → Int32) : Prop :=
  p.tables.exec = Jvm.exec ∧ c.code = code ∧ meth.sig.returnType = ret ∧ c.maxLocals = 4 ∧ s.vm.findClass R_law = some m.cls ∧ (∀ w ∈ lw_tbl, w.before #[Value.ref b] s = true) ∧ va_X b L xs s s.heap ∧ b < s.heap.size ∧ meth.locks = false ∧ (Jvm.Cond.and given_1 narrow_1).before #[Value.ref b] s = true

/-! The law's own walk: its calls over the small machine. -/
def m_law : Mt := (⟨"LeftTownLaw", "law", "([I)Z"⟩, code, 4, some .boolean)
section
variable {w : Wd} {m y : Mt} {p : Program} {e : Env} {R : Room} {s : State} {mid : MethodId} {args : Array Value} {below : List Frame} {meth : Method} {c : Code} {Q : State → Prop} {n0 z0 : Nat × Nat} {pc idx n D : Nat} {L : Lc} {rest av : List Value} {h h1 : hp} {r : Option Value}
theorem JW.callV {q : Nat} (C : Cx w m p s mid args meth c) (hk : KVi m.1.cls idx y n) (hd : decode m.2.1 pc = .ok (.invokevirtual idx, 3)) (hq : isC h q y.1.cls) (hc : Cl w D y (.ref q :: av) h r h1) (hlen : av.length = n) (hcat : (rest.map fun v => v.category).sum ≤ 8)
    (hR : D + 1 ≤ R.frames ∧ 8 + (y.2.2.1 + 11) + 40 * D ≤ R.locals) (hRc : n0.2 - n0.1 ≤ R.cells ∧ z0.2 - z0.1 ≤ R.slots) (hle : hN h1 ≤ n0.2 ∧ hZ h1 ≤ z0.2)
    (kk : JW w m p e R s mid args below meth c Q n0 z0 (pc + 3) L (r.toList ++ rest) h1) : JW w m p e R s mid args below meth c Q n0 z0 pc L (av.reverse ++ .ref q :: rest) h := by
  obtain ⟨k1, ⟨k2, k7⟩, k3, k4, k5, k6⟩ := hk
  obtain ⟨c1, c2, hM⟩ := hc
  intro H locs ls hS hl hlo hn hz
  obtain ⟨hx, hb, hml, hown, hts, hr, hlk, hnm, hKU⟩ := id C
  have hroom : (hN h - n0.1) + (hN h1 - hN h) ≤ R.cells ∧ (hZ h - z0.1) + (hZ h1 - hZ h) ≤ R.slots := by
    have a1 := hn.1; have a2 := hz.1; have a3 := hle.1; have a4 := hle.2; have a5 := hRc.1; have a6 := hRc.2
    omega
  refine go_on (va_runV ⟨hx, hb, hml, hown, hts⟩ hM ⟨callB_of n hts (ok_in k3) rfl rfl rfl (hts _ k4) (hts _ k1) k5 hR, hts _ k2, hts _ k7⟩ (As := av.map (cv w)) (b := adr w q) ⟨Pm_blind, isC_cell hS hKU hq, Pm_at hS hKU⟩ rfl (by rw [List.length_map]; exact hlen) hl.1 (rest := rest.map (cv w)) (by rw [List.map_append, List.map_reverse]; rfl) (lv_room (by rw [catS]; exact hcat)) hd hroom) hlo fun H1 locs1 hS1 hlo1 => ?_
  have := kk H1 locs1 ls hS1 hl hlo1 ⟨Nat.le_trans hn.1 c1, hle.1⟩ ⟨Nat.le_trans hz.1 c2, hle.2⟩
  refine W.cs (show _ = hN h1 - n0.1 from ?_) (show _ = hZ h1 - z0.1 from ?_) ?_
  · have a1 := hn.1; show (hN h - n0.1) + (hN h1 - hN h) = hN h1 - n0.1; omega
  · have a2 := hz.1; show (hZ h - z0.1) + (hZ h1 - hZ h) = hZ h1 - z0.1; omega
  · rw [List.map_append] at this
    cases r <;> exact this
end
/-- the law at a place, on its way to its end -/
abbrev JL (w : Wd) (p : Program) (e : Env) (s : State) (mid : MethodId) (b : Nat) (below : List Frame) (meth : Method) (c : Code) (pc : Nat) (L : Lc) (st : List Value) (h : hp) : Prop :=
  JW w m_law p e room_1 s mid #[Value.ref b] below meth c (lw_Z below #[Value.ref b] s) (33, 600033) (0, 7302250) pc L st h
/-- one call of the class, and the same of the model: the same answer -/
def Sp2 (w : Wd) (D : Nat) (mX mM : Mt) (ar : List Value) (k : cx) (S : hs) (P : cx → hs → Prop) : Prop :=
  ∃ (r : Int32) (k1 : cx) (S1 S2 : hs), Cl w D mX (.ref 33 :: ar) (mk k S) (some (.int r)) (mk k1 S1) ∧ Cl w D mM (.ref 191 :: ar) (mk k1 S1) (some (.int r)) (mk k1 S2) ∧ k1.2.1 = k.2.1 ∧ k1.1 ≤ 1000 ∧ (∀ j, S1.1 32 j = S.1 32 j) ∧ P k1 S2
theorem okA_scr {k : cx} {S : hs} {i : Int32} (hi : inb i k.2.1 = true) : okA (mk k S) 32 20 i := ⟨by decide, kN (by decide), rfl, inb_in hi⟩
theorem okN_scr {k : cx} {S : hs} : okN (mk k S) 32 := ⟨by decide, kN (by decide), by show 20 ≤ 20; decide⟩
theorem k_le {k : cx} {S : hs} (h : k.1 ≤ 1000) : hN (mk k S) ≤ 600033 ∧ hZ (mk k S) ≤ 7302250 := by
  show 213 + 2 * k.1 ≤ 600033 ∧ 4364 + 34 * k.1 ≤ 7302250
  omega
theorem D_ok {D : Nat} {y : Mt} (h : D ≤ 2000) (hy : y.2.2.1 ≤ 21) : D + 1 ≤ room_1.frames ∧ 8 + (y.2.2.1 + 11) + 40 * D ≤ room_1.locals := by
  show D + 1 ≤ 2048 ∧ 8 + (y.2.2.1 + 11) + 40 * D ≤ 84000
  omega
section
variable {w : Wd} {p : Program} {e : Env} {s : State} {mid : MethodId} {b : Nat} {below : List Frame} {meth : Method} {c : Code} {pc : Nat} {L : Lc} {st : List Value} {h : hp}
theorem lwz (C : Cx w m_law p s mid #[Value.ref b] meth c) {x : Int32} {off : Int} {tgt : Nat} (hd : decode m_law.2.1 pc = .ok (.ifCond .eq off, 3)) (ht : (pc : Int) + off = (tgt : Int)) (q : x = 0) (k : JL w p e s mid b below meth c tgt L st h) : JL w p e s mid b below meth c pc L (.int x :: st) h :=
  fun H locs ls hS hl hlo hn hz => lv_if_eq C.1 C.2.1 hd ht (fun _ => k H locs ls hS hl hlo hn hz) (fun z => absurd q z)
theorem lwf (C : Cx w m_law p s mid #[Value.ref b] meth c) {x : Int32} {off : Int} {tgt : Nat} (hd : decode m_law.2.1 pc = .ok (.ifCond .eq off, 3)) (ht : (pc : Int) + off = (tgt : Int)) (q : ¬ x = 0) (k : JL w p e s mid b below meth c (pc + 3) L st h) : JL w p e s mid b below meth c pc L (.int x :: st) h :=
  fun H locs ls hS hl hlo hn hz => lv_if_eq C.1 C.2.1 hd ht (fun z => absurd z q) (fun _ => k H locs ls hS hl hlo hn hz)
theorem lwg (C : Cx w m_law p s mid #[Value.ref b] meth c) {off : Int} {tgt : Nat} (hd : decode m_law.2.1 pc = .ok (.goto off, 3)) (ht : (pc : Int) + off = (tgt : Int)) (k : JL w p e s mid b below meth c tgt L st h) : JL w p e s mid b below meth c pc L st h :=
  fun H locs ls hS hl hlo hn hz => lv_goto C.1 C.2.1 hd ht (k H locs ls hS hl hlo hn hz)
theorem lwe (C : Cx w m_law p s mid #[Value.ref b] meth c) {x : Int32} {off : Int} {tgt : Nat} (hd : decode m_law.2.1 pc = .ok (.if_icmp .eq off, 3)) (ht : (pc : Int) + off = (tgt : Int)) (k : JL w p e s mid b below meth c tgt L st h) : JL w p e s mid b below meth c pc L (.int x :: .int x :: st) h :=
  fun H locs ls hS hl hlo hn hz => lv_icmp_eq C.1 C.2.1 hd ht (fun _ => k H locs ls hS hl hlo hn hz) (fun z => absurd rfl z)
end
def b_law_216 : List Ins := [(.aload_n 1, 0, 0, 0), (.aload_n 0, 0, 0, 0), (.iload_n 3, 0, 0, 0), (.iconst (1), 0, 0, 0), (.iadd, 0, 0, 0), (.iaload, 0, 0, 0), (.aload_n 0, 0, 0, 0), (.iload_n 3, 0, 0, 0), (.iconst (2), 0, 0, 0), (.iadd, 0, 0, 0), (.iaload, 0, 0, 0)]
theorem k_law_216 : bok m_law 216 b_law_216 = true := by decide +kernel
theorem d_law_227 : decode m_law.2.1 227 = .ok (.invokevirtual 13, 3) := by decide +kernel
theorem d_law_241 : decode m_law.2.1 241 = .ok (.invokevirtual 17, 3) := by decide +kernel
theorem d_law_244 : decode m_law.2.1 244 = .ok (.if_icmp .eq (1400), 3) := by decide +kernel
def b_law_230 : List Ins := [(.aload_n 2, 0, 0, 0), (.aload_n 0, 0, 0, 0), (.iload_n 3, 0, 0, 0), (.iconst (1), 0, 0, 0), (.iadd, 0, 0, 0), (.iaload, 0, 0, 0), (.aload_n 0, 0, 0, 0), (.iload_n 3, 0, 0, 0), (.iconst (2), 0, 0, 0), (.iadd, 0, 0, 0), (.iaload, 0, 0, 0)]
theorem k_law_230 : bok m_law 230 b_law_230 = true := by decide +kernel
set_option maxHeartbeats 1000000 in
theorem lc_0 {w : Wd} {p : Program} {e : Env} {s : State} {mid : MethodId} {b : Nat} {below : List Frame} {meth : Method} {c : Code} {D : Nat} {k : cx} {S : hs} {P : cx → hs → Prop} (C : Cx w m_law p s mid #[Value.ref b] meth c) (hD : D ≤ 2000) {i : Int32} (g1 : inb (i + (1 : Int32)) k.2.1 = true) (g2 : inb (i + (2 : Int32)) k.2.1 = true) (hst : Sp2 w D m_X_crossing m_M_crossing [.int (gI S 32 ((i + (1 : Int32))).toNatClampNeg), .int (gI S 32 ((i + (2 : Int32))).toNatClampNeg)] k S P) (kk : ∀ k1 S2, k1.2.1 = k.2.1 → P k1 S2 → JL w p e s mid b below meth c 1644 [some (.ref 32), some (.ref 33), some (.ref 191), some (.int i)] [] (mk k1 S2)) : JL w p e s mid b below meth c 216 [some (.ref 32), some (.ref 33), some (.ref 191), some (.int i)] [] (mk k S) := by
  obtain ⟨r, k1, S1, S2, hX, hM, hk, hk1, h32, hP⟩ := hst
  refine run_ok C b_law_216 k_law_216 (And.intro (okA_scr (S := S) g1) (And.intro (okA_scr (S := S) g2) (show JL w p e s mid b below meth c 227 [some (.ref 32), some (.ref 33), some (.ref 191), some (.int i)] [.int (gI S 32 ((i + (2 : Int32))).toNatClampNeg), .int (gI S 32 ((i + (1 : Int32))).toNatClampNeg), .ref 33] (mk k S) from ?_)))
  refine JW.callV (y := m_X_crossing) (av := [.int (gI S 32 ((i + (1 : Int32))).toNatClampNeg), .int (gI S 32 ((i + (2 : Int32))).toNatClampNeg)]) (rest := []) (q := 33) C l_law_13 d_law_227 (isC_st rfl rfl) hX rfl (Nat.le_of_ble_eq_true rfl) (D_ok hD (by decide)) ⟨Nat.le_of_ble_eq_true rfl, Nat.le_of_ble_eq_true rfl⟩ (k_le hk1) (show JL w p e s mid b below meth c 230 [some (.ref 32), some (.ref 33), some (.ref 191), some (.int i)] [.int r] (mk k1 S1) from ?_)
  have g1 : inb (i + (1 : Int32)) k1.2.1 = true := by rw [hk]; exact g1
  have g2 : inb (i + (2 : Int32)) k1.2.1 = true := by rw [hk]; exact g2
  refine run_ok C b_law_230 k_law_230 (And.intro (okA_scr (S := S1) g1) (And.intro (okA_scr (S := S1) g2) (show JL w p e s mid b below meth c 241 [some (.ref 32), some (.ref 33), some (.ref 191), some (.int i)] [.int (gI S1 32 ((i + (2 : Int32))).toNatClampNeg), .int (gI S1 32 ((i + (1 : Int32))).toNatClampNeg), .ref 191, .int r] (mk k1 S1) from ?_)))
  have e32 : ∀ j, gI S1 32 j = gI S 32 j := h32
  simp only [e32]
  refine JW.callV (y := m_M_crossing) (av := [.int (gI S 32 ((i + (1 : Int32))).toNatClampNeg), .int (gI S 32 ((i + (2 : Int32))).toNatClampNeg)]) (rest := [.int r]) (q := 191) C l_law_17 d_law_241 (isC_st rfl rfl) hM rfl (Nat.le_of_ble_eq_true rfl) (D_ok hD (by decide)) ⟨Nat.le_of_ble_eq_true rfl, Nat.le_of_ble_eq_true rfl⟩ (k_le hk1) (show JL w p e s mid b below meth c 244 [some (.ref 32), some (.ref 33), some (.ref 191), some (.int i)] [.int r, .int r] (mk k1 S2) from ?_)
  exact lwe C (tgt := 1644) d_law_244 rfl (kk k1 S2 hk hP)
def b_law_249 : List Ins := [(.aload_n 1, 0, 0, 0), (.aload_n 0, 0, 0, 0), (.iload_n 3, 0, 0, 0), (.iconst (1), 0, 0, 0), (.iadd, 0, 0, 0), (.iaload, 0, 0, 0), (.aload_n 0, 0, 0, 0), (.iload_n 3, 0, 0, 0), (.iconst (2), 0, 0, 0), (.iadd, 0, 0, 0), (.iaload, 0, 0, 0)]
theorem k_law_249 : bok m_law 249 b_law_249 = true := by decide +kernel
theorem d_law_260 : decode m_law.2.1 260 = .ok (.invokevirtual 18, 3) := by decide +kernel
theorem d_law_274 : decode m_law.2.1 274 = .ok (.invokevirtual 21, 3) := by decide +kernel
theorem d_law_277 : decode m_law.2.1 277 = .ok (.if_icmp .eq (1367), 3) := by decide +kernel
def b_law_263 : List Ins := [(.aload_n 2, 0, 0, 0), (.aload_n 0, 0, 0, 0), (.iload_n 3, 0, 0, 0), (.iconst (1), 0, 0, 0), (.iadd, 0, 0, 0), (.iaload, 0, 0, 0), (.aload_n 0, 0, 0, 0), (.iload_n 3, 0, 0, 0), (.iconst (2), 0, 0, 0), (.iadd, 0, 0, 0), (.iaload, 0, 0, 0)]
theorem k_law_263 : bok m_law 263 b_law_263 = true := by decide +kernel
set_option maxHeartbeats 1000000 in
theorem lc_1 {w : Wd} {p : Program} {e : Env} {s : State} {mid : MethodId} {b : Nat} {below : List Frame} {meth : Method} {c : Code} {D : Nat} {k : cx} {S : hs} {P : cx → hs → Prop} (C : Cx w m_law p s mid #[Value.ref b] meth c) (hD : D ≤ 2000) {i : Int32} (g1 : inb (i + (1 : Int32)) k.2.1 = true) (g2 : inb (i + (2 : Int32)) k.2.1 = true) (hst : Sp2 w D m_X_crossingOf m_M_crossingOf [.int (gI S 32 ((i + (1 : Int32))).toNatClampNeg), .int (gI S 32 ((i + (2 : Int32))).toNatClampNeg)] k S P) (kk : ∀ k1 S2, k1.2.1 = k.2.1 → P k1 S2 → JL w p e s mid b below meth c 1644 [some (.ref 32), some (.ref 33), some (.ref 191), some (.int i)] [] (mk k1 S2)) : JL w p e s mid b below meth c 249 [some (.ref 32), some (.ref 33), some (.ref 191), some (.int i)] [] (mk k S) := by
  obtain ⟨r, k1, S1, S2, hX, hM, hk, hk1, h32, hP⟩ := hst
  refine run_ok C b_law_249 k_law_249 (And.intro (okA_scr (S := S) g1) (And.intro (okA_scr (S := S) g2) (show JL w p e s mid b below meth c 260 [some (.ref 32), some (.ref 33), some (.ref 191), some (.int i)] [.int (gI S 32 ((i + (2 : Int32))).toNatClampNeg), .int (gI S 32 ((i + (1 : Int32))).toNatClampNeg), .ref 33] (mk k S) from ?_)))
  refine JW.callV (y := m_X_crossingOf) (av := [.int (gI S 32 ((i + (1 : Int32))).toNatClampNeg), .int (gI S 32 ((i + (2 : Int32))).toNatClampNeg)]) (rest := []) (q := 33) C l_law_18 d_law_260 (isC_st rfl rfl) hX rfl (Nat.le_of_ble_eq_true rfl) (D_ok hD (by decide)) ⟨Nat.le_of_ble_eq_true rfl, Nat.le_of_ble_eq_true rfl⟩ (k_le hk1) (show JL w p e s mid b below meth c 263 [some (.ref 32), some (.ref 33), some (.ref 191), some (.int i)] [.int r] (mk k1 S1) from ?_)
  have g1 : inb (i + (1 : Int32)) k1.2.1 = true := by rw [hk]; exact g1
  have g2 : inb (i + (2 : Int32)) k1.2.1 = true := by rw [hk]; exact g2
  refine run_ok C b_law_263 k_law_263 (And.intro (okA_scr (S := S1) g1) (And.intro (okA_scr (S := S1) g2) (show JL w p e s mid b below meth c 274 [some (.ref 32), some (.ref 33), some (.ref 191), some (.int i)] [.int (gI S1 32 ((i + (2 : Int32))).toNatClampNeg), .int (gI S1 32 ((i + (1 : Int32))).toNatClampNeg), .ref 191, .int r] (mk k1 S1) from ?_)))
  have e32 : ∀ j, gI S1 32 j = gI S 32 j := h32
  simp only [e32]
  refine JW.callV (y := m_M_crossingOf) (av := [.int (gI S 32 ((i + (1 : Int32))).toNatClampNeg), .int (gI S 32 ((i + (2 : Int32))).toNatClampNeg)]) (rest := [.int r]) (q := 191) C l_law_21 d_law_274 (isC_st rfl rfl) hM rfl (Nat.le_of_ble_eq_true rfl) (D_ok hD (by decide)) ⟨Nat.le_of_ble_eq_true rfl, Nat.le_of_ble_eq_true rfl⟩ (k_le hk1) (show JL w p e s mid b below meth c 277 [some (.ref 32), some (.ref 33), some (.ref 191), some (.int i)] [.int r, .int r] (mk k1 S2) from ?_)
  exact lwe C (tgt := 1644) d_law_277 rfl (kk k1 S2 hk hP)
def b_law_282 : List Ins := [(.aload_n 1, 0, 0, 0), (.aload_n 0, 0, 0, 0), (.iload_n 3, 0, 0, 0), (.iconst (1), 0, 0, 0), (.iadd, 0, 0, 0), (.iaload, 0, 0, 0), (.aload_n 0, 0, 0, 0), (.iload_n 3, 0, 0, 0), (.iconst (2), 0, 0, 0), (.iadd, 0, 0, 0), (.iaload, 0, 0, 0), (.aload_n 0, 0, 0, 0), (.iload_n 3, 0, 0, 0), (.iconst (3), 0, 0, 0), (.iadd, 0, 0, 0), (.iaload, 0, 0, 0), (.aload_n 0, 0, 0, 0), (.iload_n 3, 0, 0, 0), (.iconst (4), 0, 0, 0), (.iadd, 0, 0, 0), (.iaload, 0, 0, 0)]
theorem k_law_282 : bok m_law 282 b_law_282 = true := by decide +kernel
theorem d_law_303 : decode m_law.2.1 303 = .ok (.ifCond .eq (7), 3) := by decide +kernel
theorem d_law_307 : decode m_law.2.1 307 = .ok (.goto (4), 3) := by decide +kernel
def b_law_306 : List Ins := [(.iconst (1), 0, 0, 0)]
theorem k_law_306 : bok m_law 306 b_law_306 = true := by decide +kernel
def b_law_310 : List Ins := [(.iconst (0), 0, 0, 0)]
theorem k_law_310 : bok m_law 310 b_law_310 = true := by decide +kernel
theorem d_law_311 : decode m_law.2.1 311 = .ok (.invokevirtual 22, 3) := by decide +kernel
theorem d_law_343 : decode m_law.2.1 343 = .ok (.invokevirtual 26, 3) := by decide +kernel
theorem d_law_346 : decode m_law.2.1 346 = .ok (.if_icmp .eq (1298), 3) := by decide +kernel
def b_law_314 : List Ins := [(.aload_n 2, 0, 0, 0), (.aload_n 0, 0, 0, 0), (.iload_n 3, 0, 0, 0), (.iconst (1), 0, 0, 0), (.iadd, 0, 0, 0), (.iaload, 0, 0, 0), (.aload_n 0, 0, 0, 0), (.iload_n 3, 0, 0, 0), (.iconst (2), 0, 0, 0), (.iadd, 0, 0, 0), (.iaload, 0, 0, 0), (.aload_n 0, 0, 0, 0), (.iload_n 3, 0, 0, 0), (.iconst (3), 0, 0, 0), (.iadd, 0, 0, 0), (.iaload, 0, 0, 0), (.aload_n 0, 0, 0, 0), (.iload_n 3, 0, 0, 0), (.iconst (4), 0, 0, 0), (.iadd, 0, 0, 0), (.iaload, 0, 0, 0)]
theorem k_law_314 : bok m_law 314 b_law_314 = true := by decide +kernel
theorem d_law_335 : decode m_law.2.1 335 = .ok (.ifCond .eq (7), 3) := by decide +kernel
theorem d_law_339 : decode m_law.2.1 339 = .ok (.goto (4), 3) := by decide +kernel
def b_law_338 : List Ins := [(.iconst (1), 0, 0, 0)]
theorem k_law_338 : bok m_law 338 b_law_338 = true := by decide +kernel
def b_law_342 : List Ins := [(.iconst (0), 0, 0, 0)]
theorem k_law_342 : bok m_law 342 b_law_342 = true := by decide +kernel
set_option maxHeartbeats 1000000 in
theorem lc_2 {w : Wd} {p : Program} {e : Env} {s : State} {mid : MethodId} {b : Nat} {below : List Frame} {meth : Method} {c : Code} {D : Nat} {k : cx} {S : hs} {P : cx → hs → Prop} (C : Cx w m_law p s mid #[Value.ref b] meth c) (hD : D ≤ 2000) {i : Int32} (g1 : inb (i + (1 : Int32)) k.2.1 = true) (g2 : inb (i + (2 : Int32)) k.2.1 = true) (g3 : inb (i + (3 : Int32)) k.2.1 = true) (g4 : inb (i + (4 : Int32)) k.2.1 = true) (hst : Sp2 w D m_X_street m_M_street [.int (gI S 32 ((i + (1 : Int32))).toNatClampNeg), .int (gI S 32 ((i + (2 : Int32))).toNatClampNeg), .int (gI S 32 ((i + (3 : Int32))).toNatClampNeg), .int (if (gI S 32 ((i + (4 : Int32))).toNatClampNeg) = 0 then (0 : Int32) else 1)] k S P) (kk : ∀ k1 S2, k1.2.1 = k.2.1 → P k1 S2 → JL w p e s mid b below meth c 1644 [some (.ref 32), some (.ref 33), some (.ref 191), some (.int i)] [] (mk k1 S2)) : JL w p e s mid b below meth c 282 [some (.ref 32), some (.ref 33), some (.ref 191), some (.int i)] [] (mk k S) := by
  obtain ⟨r, k1, S1, S2, hX, hM, hk, hk1, h32, hP⟩ := hst
  refine run_ok C b_law_282 k_law_282 (And.intro (okA_scr (S := S) g1) (And.intro (okA_scr (S := S) g2) (And.intro (okA_scr (S := S) g3) (And.intro (okA_scr (S := S) g4) (show JL w p e s mid b below meth c 303 [some (.ref 32), some (.ref 33), some (.ref 191), some (.int i)] [.int (gI S 32 ((i + (4 : Int32))).toNatClampNeg), .int (gI S 32 ((i + (3 : Int32))).toNatClampNeg), .int (gI S 32 ((i + (2 : Int32))).toNatClampNeg), .int (gI S 32 ((i + (1 : Int32))).toNatClampNeg), .ref 33] (mk k S) from ?_)))))
  suffices hE : JL w p e s mid b below meth c 311 [some (.ref 32), some (.ref 33), some (.ref 191), some (.int i)] [.int (if (gI S 32 ((i + (4 : Int32))).toNatClampNeg) = 0 then (0 : Int32) else 1), .int (gI S 32 ((i + (3 : Int32))).toNatClampNeg), .int (gI S 32 ((i + (2 : Int32))).toNatClampNeg), .int (gI S 32 ((i + (1 : Int32))).toNatClampNeg), .ref 33] (mk k S) by
    by_cases qb : (gI S 32 ((i + (4 : Int32))).toNatClampNeg) = 0
    · rw [if_pos qb] at hE
      exact lwz C (tgt := 310) d_law_303 rfl qb (run_ok C b_law_310 k_law_310 hE)
    · rw [if_neg qb] at hE
      exact lwf C (tgt := 310) d_law_303 rfl qb (run_ok C b_law_306 k_law_306 (lwg C (tgt := 311) d_law_307 rfl hE))
  refine JW.callV (y := m_X_street) (av := [.int (gI S 32 ((i + (1 : Int32))).toNatClampNeg), .int (gI S 32 ((i + (2 : Int32))).toNatClampNeg), .int (gI S 32 ((i + (3 : Int32))).toNatClampNeg), .int (if (gI S 32 ((i + (4 : Int32))).toNatClampNeg) = 0 then (0 : Int32) else 1)]) (rest := []) (q := 33) C l_law_22 d_law_311 (isC_st rfl rfl) hX rfl (Nat.le_of_ble_eq_true rfl) (D_ok hD (by decide)) ⟨Nat.le_of_ble_eq_true rfl, Nat.le_of_ble_eq_true rfl⟩ (k_le hk1) (show JL w p e s mid b below meth c 314 [some (.ref 32), some (.ref 33), some (.ref 191), some (.int i)] [.int r] (mk k1 S1) from ?_)
  have g1 : inb (i + (1 : Int32)) k1.2.1 = true := by rw [hk]; exact g1
  have g2 : inb (i + (2 : Int32)) k1.2.1 = true := by rw [hk]; exact g2
  have g3 : inb (i + (3 : Int32)) k1.2.1 = true := by rw [hk]; exact g3
  have g4 : inb (i + (4 : Int32)) k1.2.1 = true := by rw [hk]; exact g4
  refine run_ok C b_law_314 k_law_314 (And.intro (okA_scr (S := S1) g1) (And.intro (okA_scr (S := S1) g2) (And.intro (okA_scr (S := S1) g3) (And.intro (okA_scr (S := S1) g4) (show JL w p e s mid b below meth c 335 [some (.ref 32), some (.ref 33), some (.ref 191), some (.int i)] [.int (gI S1 32 ((i + (4 : Int32))).toNatClampNeg), .int (gI S1 32 ((i + (3 : Int32))).toNatClampNeg), .int (gI S1 32 ((i + (2 : Int32))).toNatClampNeg), .int (gI S1 32 ((i + (1 : Int32))).toNatClampNeg), .ref 191, .int r] (mk k1 S1) from ?_)))))
  suffices hE : JL w p e s mid b below meth c 343 [some (.ref 32), some (.ref 33), some (.ref 191), some (.int i)] [.int (if (gI S1 32 ((i + (4 : Int32))).toNatClampNeg) = 0 then (0 : Int32) else 1), .int (gI S1 32 ((i + (3 : Int32))).toNatClampNeg), .int (gI S1 32 ((i + (2 : Int32))).toNatClampNeg), .int (gI S1 32 ((i + (1 : Int32))).toNatClampNeg), .ref 191, .int r] (mk k1 S1) by
    by_cases qb : (gI S1 32 ((i + (4 : Int32))).toNatClampNeg) = 0
    · rw [if_pos qb] at hE
      exact lwz C (tgt := 342) d_law_335 rfl qb (run_ok C b_law_342 k_law_342 hE)
    · rw [if_neg qb] at hE
      exact lwf C (tgt := 342) d_law_335 rfl qb (run_ok C b_law_338 k_law_338 (lwg C (tgt := 343) d_law_339 rfl hE))
  have e32 : ∀ j, gI S1 32 j = gI S 32 j := h32
  simp only [e32]
  refine JW.callV (y := m_M_street) (av := [.int (gI S 32 ((i + (1 : Int32))).toNatClampNeg), .int (gI S 32 ((i + (2 : Int32))).toNatClampNeg), .int (gI S 32 ((i + (3 : Int32))).toNatClampNeg), .int (if (gI S 32 ((i + (4 : Int32))).toNatClampNeg) = 0 then (0 : Int32) else 1)]) (rest := [.int r]) (q := 191) C l_law_26 d_law_343 (isC_st rfl rfl) hM rfl (Nat.le_of_ble_eq_true rfl) (D_ok hD (by decide)) ⟨Nat.le_of_ble_eq_true rfl, Nat.le_of_ble_eq_true rfl⟩ (k_le hk1) (show JL w p e s mid b below meth c 346 [some (.ref 32), some (.ref 33), some (.ref 191), some (.int i)] [.int r, .int r] (mk k1 S2) from ?_)
  exact lwe C (tgt := 1644) d_law_346 rfl (kk k1 S2 hk hP)
def b_law_351 : List Ins := [(.aload_n 1, 0, 0, 0), (.aload_n 0, 0, 0, 0), (.iload_n 3, 0, 0, 0), (.iconst (1), 0, 0, 0), (.iadd, 0, 0, 0), (.iaload, 0, 0, 0), (.aload_n 0, 0, 0, 0), (.iload_n 3, 0, 0, 0), (.iconst (2), 0, 0, 0), (.iadd, 0, 0, 0), (.iaload, 0, 0, 0)]
theorem k_law_351 : bok m_law 351 b_law_351 = true := by decide +kernel
theorem d_law_362 : decode m_law.2.1 362 = .ok (.invokevirtual 27, 3) := by decide +kernel
theorem d_law_376 : decode m_law.2.1 376 = .ok (.invokevirtual 30, 3) := by decide +kernel
theorem d_law_379 : decode m_law.2.1 379 = .ok (.if_icmp .eq (1265), 3) := by decide +kernel
def b_law_365 : List Ins := [(.aload_n 2, 0, 0, 0), (.aload_n 0, 0, 0, 0), (.iload_n 3, 0, 0, 0), (.iconst (1), 0, 0, 0), (.iadd, 0, 0, 0), (.iaload, 0, 0, 0), (.aload_n 0, 0, 0, 0), (.iload_n 3, 0, 0, 0), (.iconst (2), 0, 0, 0), (.iadd, 0, 0, 0), (.iaload, 0, 0, 0)]
theorem k_law_365 : bok m_law 365 b_law_365 = true := by decide +kernel
set_option maxHeartbeats 1000000 in
theorem lc_3 {w : Wd} {p : Program} {e : Env} {s : State} {mid : MethodId} {b : Nat} {below : List Frame} {meth : Method} {c : Code} {D : Nat} {k : cx} {S : hs} {P : cx → hs → Prop} (C : Cx w m_law p s mid #[Value.ref b] meth c) (hD : D ≤ 2000) {i : Int32} (g1 : inb (i + (1 : Int32)) k.2.1 = true) (g2 : inb (i + (2 : Int32)) k.2.1 = true) (hst : Sp2 w D m_X_streetOf m_M_streetOf [.int (gI S 32 ((i + (1 : Int32))).toNatClampNeg), .int (gI S 32 ((i + (2 : Int32))).toNatClampNeg)] k S P) (kk : ∀ k1 S2, k1.2.1 = k.2.1 → P k1 S2 → JL w p e s mid b below meth c 1644 [some (.ref 32), some (.ref 33), some (.ref 191), some (.int i)] [] (mk k1 S2)) : JL w p e s mid b below meth c 351 [some (.ref 32), some (.ref 33), some (.ref 191), some (.int i)] [] (mk k S) := by
  obtain ⟨r, k1, S1, S2, hX, hM, hk, hk1, h32, hP⟩ := hst
  refine run_ok C b_law_351 k_law_351 (And.intro (okA_scr (S := S) g1) (And.intro (okA_scr (S := S) g2) (show JL w p e s mid b below meth c 362 [some (.ref 32), some (.ref 33), some (.ref 191), some (.int i)] [.int (gI S 32 ((i + (2 : Int32))).toNatClampNeg), .int (gI S 32 ((i + (1 : Int32))).toNatClampNeg), .ref 33] (mk k S) from ?_)))
  refine JW.callV (y := m_X_streetOf) (av := [.int (gI S 32 ((i + (1 : Int32))).toNatClampNeg), .int (gI S 32 ((i + (2 : Int32))).toNatClampNeg)]) (rest := []) (q := 33) C l_law_27 d_law_362 (isC_st rfl rfl) hX rfl (Nat.le_of_ble_eq_true rfl) (D_ok hD (by decide)) ⟨Nat.le_of_ble_eq_true rfl, Nat.le_of_ble_eq_true rfl⟩ (k_le hk1) (show JL w p e s mid b below meth c 365 [some (.ref 32), some (.ref 33), some (.ref 191), some (.int i)] [.int r] (mk k1 S1) from ?_)
  have g1 : inb (i + (1 : Int32)) k1.2.1 = true := by rw [hk]; exact g1
  have g2 : inb (i + (2 : Int32)) k1.2.1 = true := by rw [hk]; exact g2
  refine run_ok C b_law_365 k_law_365 (And.intro (okA_scr (S := S1) g1) (And.intro (okA_scr (S := S1) g2) (show JL w p e s mid b below meth c 376 [some (.ref 32), some (.ref 33), some (.ref 191), some (.int i)] [.int (gI S1 32 ((i + (2 : Int32))).toNatClampNeg), .int (gI S1 32 ((i + (1 : Int32))).toNatClampNeg), .ref 191, .int r] (mk k1 S1) from ?_)))
  have e32 : ∀ j, gI S1 32 j = gI S 32 j := h32
  simp only [e32]
  refine JW.callV (y := m_M_streetOf) (av := [.int (gI S 32 ((i + (1 : Int32))).toNatClampNeg), .int (gI S 32 ((i + (2 : Int32))).toNatClampNeg)]) (rest := [.int r]) (q := 191) C l_law_30 d_law_376 (isC_st rfl rfl) hM rfl (Nat.le_of_ble_eq_true rfl) (D_ok hD (by decide)) ⟨Nat.le_of_ble_eq_true rfl, Nat.le_of_ble_eq_true rfl⟩ (k_le hk1) (show JL w p e s mid b below meth c 379 [some (.ref 32), some (.ref 33), some (.ref 191), some (.int i)] [.int r, .int r] (mk k1 S2) from ?_)
  exact lwe C (tgt := 1644) d_law_379 rfl (kk k1 S2 hk hP)
def b_law_384 : List Ins := [(.aload_n 1, 0, 0, 0), (.aload_n 0, 0, 0, 0), (.iload_n 3, 0, 0, 0), (.iconst (1), 0, 0, 0), (.iadd, 0, 0, 0), (.iaload, 0, 0, 0), (.aload_n 0, 0, 0, 0), (.iload_n 3, 0, 0, 0), (.iconst (2), 0, 0, 0), (.iadd, 0, 0, 0), (.iaload, 0, 0, 0)]
theorem k_law_384 : bok m_law 384 b_law_384 = true := by decide +kernel
theorem d_law_395 : decode m_law.2.1 395 = .ok (.ifCond .eq (7), 3) := by decide +kernel
theorem d_law_399 : decode m_law.2.1 399 = .ok (.goto (4), 3) := by decide +kernel
def b_law_398 : List Ins := [(.iconst (1), 0, 0, 0)]
theorem k_law_398 : bok m_law 398 b_law_398 = true := by decide +kernel
def b_law_402 : List Ins := [(.iconst (0), 0, 0, 0)]
theorem k_law_402 : bok m_law 402 b_law_402 = true := by decide +kernel
theorem d_law_403 : decode m_law.2.1 403 = .ok (.invokevirtual 31, 3) := by decide +kernel
theorem d_law_425 : decode m_law.2.1 425 = .ok (.invokevirtual 35, 3) := by decide +kernel
theorem d_law_428 : decode m_law.2.1 428 = .ok (.if_icmp .eq (1216), 3) := by decide +kernel
def b_law_406 : List Ins := [(.aload_n 2, 0, 0, 0), (.aload_n 0, 0, 0, 0), (.iload_n 3, 0, 0, 0), (.iconst (1), 0, 0, 0), (.iadd, 0, 0, 0), (.iaload, 0, 0, 0), (.aload_n 0, 0, 0, 0), (.iload_n 3, 0, 0, 0), (.iconst (2), 0, 0, 0), (.iadd, 0, 0, 0), (.iaload, 0, 0, 0)]
theorem k_law_406 : bok m_law 406 b_law_406 = true := by decide +kernel
theorem d_law_417 : decode m_law.2.1 417 = .ok (.ifCond .eq (7), 3) := by decide +kernel
theorem d_law_421 : decode m_law.2.1 421 = .ok (.goto (4), 3) := by decide +kernel
def b_law_420 : List Ins := [(.iconst (1), 0, 0, 0)]
theorem k_law_420 : bok m_law 420 b_law_420 = true := by decide +kernel
def b_law_424 : List Ins := [(.iconst (0), 0, 0, 0)]
theorem k_law_424 : bok m_law 424 b_law_424 = true := by decide +kernel
set_option maxHeartbeats 1000000 in
theorem lc_4 {w : Wd} {p : Program} {e : Env} {s : State} {mid : MethodId} {b : Nat} {below : List Frame} {meth : Method} {c : Code} {D : Nat} {k : cx} {S : hs} {P : cx → hs → Prop} (C : Cx w m_law p s mid #[Value.ref b] meth c) (hD : D ≤ 2000) {i : Int32} (g1 : inb (i + (1 : Int32)) k.2.1 = true) (g2 : inb (i + (2 : Int32)) k.2.1 = true) (hst : Sp2 w D m_X_shut m_M_shut [.int (gI S 32 ((i + (1 : Int32))).toNatClampNeg), .int (if (gI S 32 ((i + (2 : Int32))).toNatClampNeg) = 0 then (0 : Int32) else 1)] k S P) (kk : ∀ k1 S2, k1.2.1 = k.2.1 → P k1 S2 → JL w p e s mid b below meth c 1644 [some (.ref 32), some (.ref 33), some (.ref 191), some (.int i)] [] (mk k1 S2)) : JL w p e s mid b below meth c 384 [some (.ref 32), some (.ref 33), some (.ref 191), some (.int i)] [] (mk k S) := by
  obtain ⟨r, k1, S1, S2, hX, hM, hk, hk1, h32, hP⟩ := hst
  refine run_ok C b_law_384 k_law_384 (And.intro (okA_scr (S := S) g1) (And.intro (okA_scr (S := S) g2) (show JL w p e s mid b below meth c 395 [some (.ref 32), some (.ref 33), some (.ref 191), some (.int i)] [.int (gI S 32 ((i + (2 : Int32))).toNatClampNeg), .int (gI S 32 ((i + (1 : Int32))).toNatClampNeg), .ref 33] (mk k S) from ?_)))
  suffices hE : JL w p e s mid b below meth c 403 [some (.ref 32), some (.ref 33), some (.ref 191), some (.int i)] [.int (if (gI S 32 ((i + (2 : Int32))).toNatClampNeg) = 0 then (0 : Int32) else 1), .int (gI S 32 ((i + (1 : Int32))).toNatClampNeg), .ref 33] (mk k S) by
    by_cases qb : (gI S 32 ((i + (2 : Int32))).toNatClampNeg) = 0
    · rw [if_pos qb] at hE
      exact lwz C (tgt := 402) d_law_395 rfl qb (run_ok C b_law_402 k_law_402 hE)
    · rw [if_neg qb] at hE
      exact lwf C (tgt := 402) d_law_395 rfl qb (run_ok C b_law_398 k_law_398 (lwg C (tgt := 403) d_law_399 rfl hE))
  refine JW.callV (y := m_X_shut) (av := [.int (gI S 32 ((i + (1 : Int32))).toNatClampNeg), .int (if (gI S 32 ((i + (2 : Int32))).toNatClampNeg) = 0 then (0 : Int32) else 1)]) (rest := []) (q := 33) C l_law_31 d_law_403 (isC_st rfl rfl) hX rfl (Nat.le_of_ble_eq_true rfl) (D_ok hD (by decide)) ⟨Nat.le_of_ble_eq_true rfl, Nat.le_of_ble_eq_true rfl⟩ (k_le hk1) (show JL w p e s mid b below meth c 406 [some (.ref 32), some (.ref 33), some (.ref 191), some (.int i)] [.int r] (mk k1 S1) from ?_)
  have g1 : inb (i + (1 : Int32)) k1.2.1 = true := by rw [hk]; exact g1
  have g2 : inb (i + (2 : Int32)) k1.2.1 = true := by rw [hk]; exact g2
  refine run_ok C b_law_406 k_law_406 (And.intro (okA_scr (S := S1) g1) (And.intro (okA_scr (S := S1) g2) (show JL w p e s mid b below meth c 417 [some (.ref 32), some (.ref 33), some (.ref 191), some (.int i)] [.int (gI S1 32 ((i + (2 : Int32))).toNatClampNeg), .int (gI S1 32 ((i + (1 : Int32))).toNatClampNeg), .ref 191, .int r] (mk k1 S1) from ?_)))
  suffices hE : JL w p e s mid b below meth c 425 [some (.ref 32), some (.ref 33), some (.ref 191), some (.int i)] [.int (if (gI S1 32 ((i + (2 : Int32))).toNatClampNeg) = 0 then (0 : Int32) else 1), .int (gI S1 32 ((i + (1 : Int32))).toNatClampNeg), .ref 191, .int r] (mk k1 S1) by
    by_cases qb : (gI S1 32 ((i + (2 : Int32))).toNatClampNeg) = 0
    · rw [if_pos qb] at hE
      exact lwz C (tgt := 424) d_law_417 rfl qb (run_ok C b_law_424 k_law_424 hE)
    · rw [if_neg qb] at hE
      exact lwf C (tgt := 424) d_law_417 rfl qb (run_ok C b_law_420 k_law_420 (lwg C (tgt := 425) d_law_421 rfl hE))
  have e32 : ∀ j, gI S1 32 j = gI S 32 j := h32
  simp only [e32]
  refine JW.callV (y := m_M_shut) (av := [.int (gI S 32 ((i + (1 : Int32))).toNatClampNeg), .int (if (gI S 32 ((i + (2 : Int32))).toNatClampNeg) = 0 then (0 : Int32) else 1)]) (rest := [.int r]) (q := 191) C l_law_35 d_law_425 (isC_st rfl rfl) hM rfl (Nat.le_of_ble_eq_true rfl) (D_ok hD (by decide)) ⟨Nat.le_of_ble_eq_true rfl, Nat.le_of_ble_eq_true rfl⟩ (k_le hk1) (show JL w p e s mid b below meth c 428 [some (.ref 32), some (.ref 33), some (.ref 191), some (.int i)] [.int r, .int r] (mk k1 S2) from ?_)
  exact lwe C (tgt := 1644) d_law_428 rfl (kk k1 S2 hk hP)
def b_law_433 : List Ins := [(.aload_n 1, 0, 0, 0), (.aload_n 0, 0, 0, 0), (.iload_n 3, 0, 0, 0), (.iconst (1), 0, 0, 0), (.iadd, 0, 0, 0), (.iaload, 0, 0, 0), (.aload_n 0, 0, 0, 0), (.iload_n 3, 0, 0, 0), (.iconst (2), 0, 0, 0), (.iadd, 0, 0, 0), (.iaload, 0, 0, 0)]
theorem k_law_433 : bok m_law 433 b_law_433 = true := by decide +kernel
theorem d_law_444 : decode m_law.2.1 444 = .ok (.invokevirtual 36, 3) := by decide +kernel
theorem d_law_458 : decode m_law.2.1 458 = .ok (.invokevirtual 39, 3) := by decide +kernel
theorem d_law_461 : decode m_law.2.1 461 = .ok (.if_icmp .eq (1183), 3) := by decide +kernel
def b_law_447 : List Ins := [(.aload_n 2, 0, 0, 0), (.aload_n 0, 0, 0, 0), (.iload_n 3, 0, 0, 0), (.iconst (1), 0, 0, 0), (.iadd, 0, 0, 0), (.iaload, 0, 0, 0), (.aload_n 0, 0, 0, 0), (.iload_n 3, 0, 0, 0), (.iconst (2), 0, 0, 0), (.iadd, 0, 0, 0), (.iaload, 0, 0, 0)]
theorem k_law_447 : bok m_law 447 b_law_447 = true := by decide +kernel
set_option maxHeartbeats 1000000 in
theorem lc_5 {w : Wd} {p : Program} {e : Env} {s : State} {mid : MethodId} {b : Nat} {below : List Frame} {meth : Method} {c : Code} {D : Nat} {k : cx} {S : hs} {P : cx → hs → Prop} (C : Cx w m_law p s mid #[Value.ref b] meth c) (hD : D ≤ 2000) {i : Int32} (g1 : inb (i + (1 : Int32)) k.2.1 = true) (g2 : inb (i + (2 : Int32)) k.2.1 = true) (hst : Sp2 w D m_X_widen m_M_widen [.int (gI S 32 ((i + (1 : Int32))).toNatClampNeg), .int (gI S 32 ((i + (2 : Int32))).toNatClampNeg)] k S P) (kk : ∀ k1 S2, k1.2.1 = k.2.1 → P k1 S2 → JL w p e s mid b below meth c 1644 [some (.ref 32), some (.ref 33), some (.ref 191), some (.int i)] [] (mk k1 S2)) : JL w p e s mid b below meth c 433 [some (.ref 32), some (.ref 33), some (.ref 191), some (.int i)] [] (mk k S) := by
  obtain ⟨r, k1, S1, S2, hX, hM, hk, hk1, h32, hP⟩ := hst
  refine run_ok C b_law_433 k_law_433 (And.intro (okA_scr (S := S) g1) (And.intro (okA_scr (S := S) g2) (show JL w p e s mid b below meth c 444 [some (.ref 32), some (.ref 33), some (.ref 191), some (.int i)] [.int (gI S 32 ((i + (2 : Int32))).toNatClampNeg), .int (gI S 32 ((i + (1 : Int32))).toNatClampNeg), .ref 33] (mk k S) from ?_)))
  refine JW.callV (y := m_X_widen) (av := [.int (gI S 32 ((i + (1 : Int32))).toNatClampNeg), .int (gI S 32 ((i + (2 : Int32))).toNatClampNeg)]) (rest := []) (q := 33) C l_law_36 d_law_444 (isC_st rfl rfl) hX rfl (Nat.le_of_ble_eq_true rfl) (D_ok hD (by decide)) ⟨Nat.le_of_ble_eq_true rfl, Nat.le_of_ble_eq_true rfl⟩ (k_le hk1) (show JL w p e s mid b below meth c 447 [some (.ref 32), some (.ref 33), some (.ref 191), some (.int i)] [.int r] (mk k1 S1) from ?_)
  have g1 : inb (i + (1 : Int32)) k1.2.1 = true := by rw [hk]; exact g1
  have g2 : inb (i + (2 : Int32)) k1.2.1 = true := by rw [hk]; exact g2
  refine run_ok C b_law_447 k_law_447 (And.intro (okA_scr (S := S1) g1) (And.intro (okA_scr (S := S1) g2) (show JL w p e s mid b below meth c 458 [some (.ref 32), some (.ref 33), some (.ref 191), some (.int i)] [.int (gI S1 32 ((i + (2 : Int32))).toNatClampNeg), .int (gI S1 32 ((i + (1 : Int32))).toNatClampNeg), .ref 191, .int r] (mk k1 S1) from ?_)))
  have e32 : ∀ j, gI S1 32 j = gI S 32 j := h32
  simp only [e32]
  refine JW.callV (y := m_M_widen) (av := [.int (gI S 32 ((i + (1 : Int32))).toNatClampNeg), .int (gI S 32 ((i + (2 : Int32))).toNatClampNeg)]) (rest := [.int r]) (q := 191) C l_law_39 d_law_458 (isC_st rfl rfl) hM rfl (Nat.le_of_ble_eq_true rfl) (D_ok hD (by decide)) ⟨Nat.le_of_ble_eq_true rfl, Nat.le_of_ble_eq_true rfl⟩ (k_le hk1) (show JL w p e s mid b below meth c 461 [some (.ref 32), some (.ref 33), some (.ref 191), some (.int i)] [.int r, .int r] (mk k1 S2) from ?_)
  exact lwe C (tgt := 1644) d_law_461 rfl (kk k1 S2 hk hP)
def b_law_466 : List Ins := [(.aload_n 1, 0, 0, 0), (.aload_n 0, 0, 0, 0), (.iload_n 3, 0, 0, 0), (.iconst (1), 0, 0, 0), (.iadd, 0, 0, 0), (.iaload, 0, 0, 0)]
theorem k_law_466 : bok m_law 466 b_law_466 = true := by decide +kernel
theorem d_law_472 : decode m_law.2.1 472 = .ok (.invokevirtual 40, 3) := by decide +kernel
theorem d_law_481 : decode m_law.2.1 481 = .ok (.invokevirtual 44, 3) := by decide +kernel
theorem d_law_484 : decode m_law.2.1 484 = .ok (.if_icmp .eq (1160), 3) := by decide +kernel
def b_law_475 : List Ins := [(.aload_n 2, 0, 0, 0), (.aload_n 0, 0, 0, 0), (.iload_n 3, 0, 0, 0), (.iconst (1), 0, 0, 0), (.iadd, 0, 0, 0), (.iaload, 0, 0, 0)]
theorem k_law_475 : bok m_law 475 b_law_475 = true := by decide +kernel
set_option maxHeartbeats 1000000 in
theorem lc_6 {w : Wd} {p : Program} {e : Env} {s : State} {mid : MethodId} {b : Nat} {below : List Frame} {meth : Method} {c : Code} {D : Nat} {k : cx} {S : hs} {P : cx → hs → Prop} (C : Cx w m_law p s mid #[Value.ref b] meth c) (hD : D ≤ 2000) {i : Int32} (g1 : inb (i + (1 : Int32)) k.2.1 = true) (hst : Sp2 w D m_X_day m_M_day [.int (gI S 32 ((i + (1 : Int32))).toNatClampNeg)] k S P) (kk : ∀ k1 S2, k1.2.1 = k.2.1 → P k1 S2 → JL w p e s mid b below meth c 1644 [some (.ref 32), some (.ref 33), some (.ref 191), some (.int i)] [] (mk k1 S2)) : JL w p e s mid b below meth c 466 [some (.ref 32), some (.ref 33), some (.ref 191), some (.int i)] [] (mk k S) := by
  obtain ⟨r, k1, S1, S2, hX, hM, hk, hk1, h32, hP⟩ := hst
  refine run_ok C b_law_466 k_law_466 (And.intro (okA_scr (S := S) g1) (show JL w p e s mid b below meth c 472 [some (.ref 32), some (.ref 33), some (.ref 191), some (.int i)] [.int (gI S 32 ((i + (1 : Int32))).toNatClampNeg), .ref 33] (mk k S) from ?_))
  refine JW.callV (y := m_X_day) (av := [.int (gI S 32 ((i + (1 : Int32))).toNatClampNeg)]) (rest := []) (q := 33) C l_law_40 d_law_472 (isC_st rfl rfl) hX rfl (Nat.le_of_ble_eq_true rfl) (D_ok hD (by decide)) ⟨Nat.le_of_ble_eq_true rfl, Nat.le_of_ble_eq_true rfl⟩ (k_le hk1) (show JL w p e s mid b below meth c 475 [some (.ref 32), some (.ref 33), some (.ref 191), some (.int i)] [.int r] (mk k1 S1) from ?_)
  have g1 : inb (i + (1 : Int32)) k1.2.1 = true := by rw [hk]; exact g1
  refine run_ok C b_law_475 k_law_475 (And.intro (okA_scr (S := S1) g1) (show JL w p e s mid b below meth c 481 [some (.ref 32), some (.ref 33), some (.ref 191), some (.int i)] [.int (gI S1 32 ((i + (1 : Int32))).toNatClampNeg), .ref 191, .int r] (mk k1 S1) from ?_))
  have e32 : ∀ j, gI S1 32 j = gI S 32 j := h32
  simp only [e32]
  refine JW.callV (y := m_M_day) (av := [.int (gI S 32 ((i + (1 : Int32))).toNatClampNeg)]) (rest := [.int r]) (q := 191) C l_law_44 d_law_481 (isC_st rfl rfl) hM rfl (Nat.le_of_ble_eq_true rfl) (D_ok hD (by decide)) ⟨Nat.le_of_ble_eq_true rfl, Nat.le_of_ble_eq_true rfl⟩ (k_le hk1) (show JL w p e s mid b below meth c 484 [some (.ref 32), some (.ref 33), some (.ref 191), some (.int i)] [.int r, .int r] (mk k1 S2) from ?_)
  exact lwe C (tgt := 1644) d_law_484 rfl (kk k1 S2 hk hP)
def b_law_489 : List Ins := [(.aload_n 1, 0, 0, 0), (.aload_n 0, 0, 0, 0), (.iload_n 3, 0, 0, 0), (.iconst (1), 0, 0, 0), (.iadd, 0, 0, 0), (.iaload, 0, 0, 0), (.i2l, 0, 0, 0), (.bipush (32), 0, 0, 0), (.lshl, 0, 0, 0), (.aload_n 0, 0, 0, 0), (.iload_n 3, 0, 0, 0), (.iconst (2), 0, 0, 0), (.iadd, 0, 0, 0), (.iaload, 0, 0, 0), (.i2l, 0, 0, 0), (.ldc2_w 45, 0, 4294967295, 0), (.land, 0, 0, 0), (.lor, 0, 0, 0), (.aload_n 0, 0, 0, 0), (.iload_n 3, 0, 0, 0), (.iconst (3), 0, 0, 0), (.iadd, 0, 0, 0), (.iaload, 0, 0, 0)]
theorem k_law_489 : bok m_law 489 b_law_489 = true := by decide +kernel
theorem d_law_515 : decode m_law.2.1 515 = .ok (.invokevirtual 47, 3) := by decide +kernel
theorem d_law_544 : decode m_law.2.1 544 = .ok (.invokevirtual 51, 3) := by decide +kernel
theorem d_law_547 : decode m_law.2.1 547 = .ok (.if_icmp .eq (1097), 3) := by decide +kernel
def b_law_518 : List Ins := [(.aload_n 2, 0, 0, 0), (.aload_n 0, 0, 0, 0), (.iload_n 3, 0, 0, 0), (.iconst (1), 0, 0, 0), (.iadd, 0, 0, 0), (.iaload, 0, 0, 0), (.i2l, 0, 0, 0), (.bipush (32), 0, 0, 0), (.lshl, 0, 0, 0), (.aload_n 0, 0, 0, 0), (.iload_n 3, 0, 0, 0), (.iconst (2), 0, 0, 0), (.iadd, 0, 0, 0), (.iaload, 0, 0, 0), (.i2l, 0, 0, 0), (.ldc2_w 45, 0, 4294967295, 0), (.land, 0, 0, 0), (.lor, 0, 0, 0), (.aload_n 0, 0, 0, 0), (.iload_n 3, 0, 0, 0), (.iconst (3), 0, 0, 0), (.iadd, 0, 0, 0), (.iaload, 0, 0, 0)]
theorem k_law_518 : bok m_law 518 b_law_518 = true := by decide +kernel
set_option maxHeartbeats 1000000 in
theorem lc_7 {w : Wd} {p : Program} {e : Env} {s : State} {mid : MethodId} {b : Nat} {below : List Frame} {meth : Method} {c : Code} {D : Nat} {k : cx} {S : hs} {P : cx → hs → Prop} (C : Cx w m_law p s mid #[Value.ref b] meth c) (hD : D ≤ 2000) {i : Int32} (g1 : inb (i + (1 : Int32)) k.2.1 = true) (g2 : inb (i + (2 : Int32)) k.2.1 = true) (g3 : inb (i + (3 : Int32)) k.2.1 = true) (hst : Sp2 w D m_X_feed m_M_feed [.long ((((gI S 32 ((i + (1 : Int32))).toNatClampNeg).toInt64) <<< ((32 : Int32).toInt64 &&& 63)) ||| (((gI S 32 ((i + (2 : Int32))).toNatClampNeg).toInt64) &&& (4294967295 : Int64))), .int (gI S 32 ((i + (3 : Int32))).toNatClampNeg)] k S P) (kk : ∀ k1 S2, k1.2.1 = k.2.1 → P k1 S2 → JL w p e s mid b below meth c 1644 [some (.ref 32), some (.ref 33), some (.ref 191), some (.int i)] [] (mk k1 S2)) : JL w p e s mid b below meth c 489 [some (.ref 32), some (.ref 33), some (.ref 191), some (.int i)] [] (mk k S) := by
  obtain ⟨r, k1, S1, S2, hX, hM, hk, hk1, h32, hP⟩ := hst
  refine run_ok C b_law_489 k_law_489 (And.intro (okA_scr (S := S) g1) (And.intro (okA_scr (S := S) g2) (And.intro (okA_scr (S := S) g3) (show JL w p e s mid b below meth c 515 [some (.ref 32), some (.ref 33), some (.ref 191), some (.int i)] [.int (gI S 32 ((i + (3 : Int32))).toNatClampNeg), .long ((((gI S 32 ((i + (1 : Int32))).toNatClampNeg).toInt64) <<< ((32 : Int32).toInt64 &&& 63)) ||| (((gI S 32 ((i + (2 : Int32))).toNatClampNeg).toInt64) &&& (4294967295 : Int64))), .ref 33] (mk k S) from ?_))))
  refine JW.callV (y := m_X_feed) (av := [.long ((((gI S 32 ((i + (1 : Int32))).toNatClampNeg).toInt64) <<< ((32 : Int32).toInt64 &&& 63)) ||| (((gI S 32 ((i + (2 : Int32))).toNatClampNeg).toInt64) &&& (4294967295 : Int64))), .int (gI S 32 ((i + (3 : Int32))).toNatClampNeg)]) (rest := []) (q := 33) C l_law_47 d_law_515 (isC_st rfl rfl) hX rfl (Nat.le_of_ble_eq_true rfl) (D_ok hD (by decide)) ⟨Nat.le_of_ble_eq_true rfl, Nat.le_of_ble_eq_true rfl⟩ (k_le hk1) (show JL w p e s mid b below meth c 518 [some (.ref 32), some (.ref 33), some (.ref 191), some (.int i)] [.int r] (mk k1 S1) from ?_)
  have g1 : inb (i + (1 : Int32)) k1.2.1 = true := by rw [hk]; exact g1
  have g2 : inb (i + (2 : Int32)) k1.2.1 = true := by rw [hk]; exact g2
  have g3 : inb (i + (3 : Int32)) k1.2.1 = true := by rw [hk]; exact g3
  refine run_ok C b_law_518 k_law_518 (And.intro (okA_scr (S := S1) g1) (And.intro (okA_scr (S := S1) g2) (And.intro (okA_scr (S := S1) g3) (show JL w p e s mid b below meth c 544 [some (.ref 32), some (.ref 33), some (.ref 191), some (.int i)] [.int (gI S1 32 ((i + (3 : Int32))).toNatClampNeg), .long ((((gI S1 32 ((i + (1 : Int32))).toNatClampNeg).toInt64) <<< ((32 : Int32).toInt64 &&& 63)) ||| (((gI S1 32 ((i + (2 : Int32))).toNatClampNeg).toInt64) &&& (4294967295 : Int64))), .ref 191, .int r] (mk k1 S1) from ?_))))
  have e32 : ∀ j, gI S1 32 j = gI S 32 j := h32
  simp only [e32]
  refine JW.callV (y := m_M_feed) (av := [.long ((((gI S 32 ((i + (1 : Int32))).toNatClampNeg).toInt64) <<< ((32 : Int32).toInt64 &&& 63)) ||| (((gI S 32 ((i + (2 : Int32))).toNatClampNeg).toInt64) &&& (4294967295 : Int64))), .int (gI S 32 ((i + (3 : Int32))).toNatClampNeg)]) (rest := [.int r]) (q := 191) C l_law_51 d_law_544 (isC_st rfl rfl) hM rfl (Nat.le_of_ble_eq_true rfl) (D_ok hD (by decide)) ⟨Nat.le_of_ble_eq_true rfl, Nat.le_of_ble_eq_true rfl⟩ (k_le hk1) (show JL w p e s mid b below meth c 547 [some (.ref 32), some (.ref 33), some (.ref 191), some (.int i)] [.int r, .int r] (mk k1 S2) from ?_)
  exact lwe C (tgt := 1644) d_law_547 rfl (kk k1 S2 hk hP)
def b_law_552 : List Ins := [(.aload_n 1, 0, 0, 0)]
theorem k_law_552 : bok m_law 552 b_law_552 = true := by decide +kernel
theorem d_law_553 : decode m_law.2.1 553 = .ok (.invokevirtual 52, 3) := by decide +kernel
theorem d_law_557 : decode m_law.2.1 557 = .ok (.invokevirtual 56, 3) := by decide +kernel
theorem d_law_560 : decode m_law.2.1 560 = .ok (.if_icmp .eq (1084), 3) := by decide +kernel
def b_law_556 : List Ins := [(.aload_n 2, 0, 0, 0)]
theorem k_law_556 : bok m_law 556 b_law_556 = true := by decide +kernel
set_option maxHeartbeats 1000000 in
theorem lc_8 {w : Wd} {p : Program} {e : Env} {s : State} {mid : MethodId} {b : Nat} {below : List Frame} {meth : Method} {c : Code} {D : Nat} {k : cx} {S : hs} {P : cx → hs → Prop} (C : Cx w m_law p s mid #[Value.ref b] meth c) (hD : D ≤ 2000) {i : Int32}  (hst : Sp2 w D m_X_law m_M_law [] k S P) (kk : ∀ k1 S2, k1.2.1 = k.2.1 → P k1 S2 → JL w p e s mid b below meth c 1644 [some (.ref 32), some (.ref 33), some (.ref 191), some (.int i)] [] (mk k1 S2)) : JL w p e s mid b below meth c 552 [some (.ref 32), some (.ref 33), some (.ref 191), some (.int i)] [] (mk k S) := by
  obtain ⟨r, k1, S1, S2, hX, hM, hk, hk1, h32, hP⟩ := hst
  refine run_ok C b_law_552 k_law_552 (show JL w p e s mid b below meth c 553 [some (.ref 32), some (.ref 33), some (.ref 191), some (.int i)] [.ref 33] (mk k S) from ?_)
  refine JW.callV (y := m_X_law) (av := []) (rest := []) (q := 33) C l_law_52 d_law_553 (isC_st rfl rfl) hX rfl (Nat.le_of_ble_eq_true rfl) (D_ok hD (by decide)) ⟨Nat.le_of_ble_eq_true rfl, Nat.le_of_ble_eq_true rfl⟩ (k_le hk1) (show JL w p e s mid b below meth c 556 [some (.ref 32), some (.ref 33), some (.ref 191), some (.int i)] [.int r] (mk k1 S1) from ?_)
  refine run_ok C b_law_556 k_law_556 (show JL w p e s mid b below meth c 557 [some (.ref 32), some (.ref 33), some (.ref 191), some (.int i)] [.ref 191, .int r] (mk k1 S1) from ?_)
  refine JW.callV (y := m_M_law) (av := []) (rest := [.int r]) (q := 191) C l_law_56 d_law_557 (isC_st rfl rfl) hM rfl (Nat.le_of_ble_eq_true rfl) (D_ok hD (by decide)) ⟨Nat.le_of_ble_eq_true rfl, Nat.le_of_ble_eq_true rfl⟩ (k_le hk1) (show JL w p e s mid b below meth c 560 [some (.ref 32), some (.ref 33), some (.ref 191), some (.int i)] [.int r, .int r] (mk k1 S2) from ?_)
  exact lwe C (tgt := 1644) d_law_560 rfl (kk k1 S2 hk hP)
def b_law_565 : List Ins := [(.aload_n 1, 0, 0, 0), (.aload_n 0, 0, 0, 0), (.iload_n 3, 0, 0, 0), (.iconst (1), 0, 0, 0), (.iadd, 0, 0, 0), (.iaload, 0, 0, 0), (.aload_n 0, 0, 0, 0), (.iload_n 3, 0, 0, 0), (.iconst (2), 0, 0, 0), (.iadd, 0, 0, 0), (.iaload, 0, 0, 0)]
theorem k_law_565 : bok m_law 565 b_law_565 = true := by decide +kernel
theorem d_law_576 : decode m_law.2.1 576 = .ok (.invokevirtual 57, 3) := by decide +kernel
theorem d_law_590 : decode m_law.2.1 590 = .ok (.invokevirtual 60, 3) := by decide +kernel
theorem d_law_593 : decode m_law.2.1 593 = .ok (.if_icmp .eq (1051), 3) := by decide +kernel
def b_law_579 : List Ins := [(.aload_n 2, 0, 0, 0), (.aload_n 0, 0, 0, 0), (.iload_n 3, 0, 0, 0), (.iconst (1), 0, 0, 0), (.iadd, 0, 0, 0), (.iaload, 0, 0, 0), (.aload_n 0, 0, 0, 0), (.iload_n 3, 0, 0, 0), (.iconst (2), 0, 0, 0), (.iadd, 0, 0, 0), (.iaload, 0, 0, 0)]
theorem k_law_579 : bok m_law 579 b_law_579 = true := by decide +kernel
set_option maxHeartbeats 1000000 in
theorem lc_9 {w : Wd} {p : Program} {e : Env} {s : State} {mid : MethodId} {b : Nat} {below : List Frame} {meth : Method} {c : Code} {D : Nat} {k : cx} {S : hs} {P : cx → hs → Prop} (C : Cx w m_law p s mid #[Value.ref b] meth c) (hD : D ≤ 2000) {i : Int32} (g1 : inb (i + (1 : Int32)) k.2.1 = true) (g2 : inb (i + (2 : Int32)) k.2.1 = true) (hst : Sp2 w D m_X_turn m_M_turn [.int (gI S 32 ((i + (1 : Int32))).toNatClampNeg), .int (gI S 32 ((i + (2 : Int32))).toNatClampNeg)] k S P) (kk : ∀ k1 S2, k1.2.1 = k.2.1 → P k1 S2 → JL w p e s mid b below meth c 1644 [some (.ref 32), some (.ref 33), some (.ref 191), some (.int i)] [] (mk k1 S2)) : JL w p e s mid b below meth c 565 [some (.ref 32), some (.ref 33), some (.ref 191), some (.int i)] [] (mk k S) := by
  obtain ⟨r, k1, S1, S2, hX, hM, hk, hk1, h32, hP⟩ := hst
  refine run_ok C b_law_565 k_law_565 (And.intro (okA_scr (S := S) g1) (And.intro (okA_scr (S := S) g2) (show JL w p e s mid b below meth c 576 [some (.ref 32), some (.ref 33), some (.ref 191), some (.int i)] [.int (gI S 32 ((i + (2 : Int32))).toNatClampNeg), .int (gI S 32 ((i + (1 : Int32))).toNatClampNeg), .ref 33] (mk k S) from ?_)))
  refine JW.callV (y := m_X_turn) (av := [.int (gI S 32 ((i + (1 : Int32))).toNatClampNeg), .int (gI S 32 ((i + (2 : Int32))).toNatClampNeg)]) (rest := []) (q := 33) C l_law_57 d_law_576 (isC_st rfl rfl) hX rfl (Nat.le_of_ble_eq_true rfl) (D_ok hD (by decide)) ⟨Nat.le_of_ble_eq_true rfl, Nat.le_of_ble_eq_true rfl⟩ (k_le hk1) (show JL w p e s mid b below meth c 579 [some (.ref 32), some (.ref 33), some (.ref 191), some (.int i)] [.int r] (mk k1 S1) from ?_)
  have g1 : inb (i + (1 : Int32)) k1.2.1 = true := by rw [hk]; exact g1
  have g2 : inb (i + (2 : Int32)) k1.2.1 = true := by rw [hk]; exact g2
  refine run_ok C b_law_579 k_law_579 (And.intro (okA_scr (S := S1) g1) (And.intro (okA_scr (S := S1) g2) (show JL w p e s mid b below meth c 590 [some (.ref 32), some (.ref 33), some (.ref 191), some (.int i)] [.int (gI S1 32 ((i + (2 : Int32))).toNatClampNeg), .int (gI S1 32 ((i + (1 : Int32))).toNatClampNeg), .ref 191, .int r] (mk k1 S1) from ?_)))
  have e32 : ∀ j, gI S1 32 j = gI S 32 j := h32
  simp only [e32]
  refine JW.callV (y := m_M_turn) (av := [.int (gI S 32 ((i + (1 : Int32))).toNatClampNeg), .int (gI S 32 ((i + (2 : Int32))).toNatClampNeg)]) (rest := [.int r]) (q := 191) C l_law_60 d_law_590 (isC_st rfl rfl) hM rfl (Nat.le_of_ble_eq_true rfl) (D_ok hD (by decide)) ⟨Nat.le_of_ble_eq_true rfl, Nat.le_of_ble_eq_true rfl⟩ (k_le hk1) (show JL w p e s mid b below meth c 593 [some (.ref 32), some (.ref 33), some (.ref 191), some (.int i)] [.int r, .int r] (mk k1 S2) from ?_)
  exact lwe C (tgt := 1644) d_law_593 rfl (kk k1 S2 hk hP)
def b_law_598 : List Ins := [(.aload_n 1, 0, 0, 0), (.aload_n 0, 0, 0, 0), (.iload_n 3, 0, 0, 0), (.iconst (1), 0, 0, 0), (.iadd, 0, 0, 0), (.iaload, 0, 0, 0), (.aload_n 0, 0, 0, 0), (.iload_n 3, 0, 0, 0), (.iconst (2), 0, 0, 0), (.iadd, 0, 0, 0), (.iaload, 0, 0, 0), (.aload_n 0, 0, 0, 0), (.iload_n 3, 0, 0, 0), (.iconst (3), 0, 0, 0), (.iadd, 0, 0, 0), (.iaload, 0, 0, 0)]
theorem k_law_598 : bok m_law 598 b_law_598 = true := by decide +kernel
theorem d_law_614 : decode m_law.2.1 614 = .ok (.invokevirtual 61, 3) := by decide +kernel
theorem d_law_633 : decode m_law.2.1 633 = .ok (.invokevirtual 65, 3) := by decide +kernel
theorem d_law_636 : decode m_law.2.1 636 = .ok (.if_icmp .eq (1008), 3) := by decide +kernel
def b_law_617 : List Ins := [(.aload_n 2, 0, 0, 0), (.aload_n 0, 0, 0, 0), (.iload_n 3, 0, 0, 0), (.iconst (1), 0, 0, 0), (.iadd, 0, 0, 0), (.iaload, 0, 0, 0), (.aload_n 0, 0, 0, 0), (.iload_n 3, 0, 0, 0), (.iconst (2), 0, 0, 0), (.iadd, 0, 0, 0), (.iaload, 0, 0, 0), (.aload_n 0, 0, 0, 0), (.iload_n 3, 0, 0, 0), (.iconst (3), 0, 0, 0), (.iadd, 0, 0, 0), (.iaload, 0, 0, 0)]
theorem k_law_617 : bok m_law 617 b_law_617 = true := by decide +kernel
set_option maxHeartbeats 1000000 in
theorem lc_10 {w : Wd} {p : Program} {e : Env} {s : State} {mid : MethodId} {b : Nat} {below : List Frame} {meth : Method} {c : Code} {D : Nat} {k : cx} {S : hs} {P : cx → hs → Prop} (C : Cx w m_law p s mid #[Value.ref b] meth c) (hD : D ≤ 2000) {i : Int32} (g1 : inb (i + (1 : Int32)) k.2.1 = true) (g2 : inb (i + (2 : Int32)) k.2.1 = true) (g3 : inb (i + (3 : Int32)) k.2.1 = true) (hst : Sp2 w D m_X_may m_M_may [.int (gI S 32 ((i + (1 : Int32))).toNatClampNeg), .int (gI S 32 ((i + (2 : Int32))).toNatClampNeg), .int (gI S 32 ((i + (3 : Int32))).toNatClampNeg)] k S P) (kk : ∀ k1 S2, k1.2.1 = k.2.1 → P k1 S2 → JL w p e s mid b below meth c 1644 [some (.ref 32), some (.ref 33), some (.ref 191), some (.int i)] [] (mk k1 S2)) : JL w p e s mid b below meth c 598 [some (.ref 32), some (.ref 33), some (.ref 191), some (.int i)] [] (mk k S) := by
  obtain ⟨r, k1, S1, S2, hX, hM, hk, hk1, h32, hP⟩ := hst
  refine run_ok C b_law_598 k_law_598 (And.intro (okA_scr (S := S) g1) (And.intro (okA_scr (S := S) g2) (And.intro (okA_scr (S := S) g3) (show JL w p e s mid b below meth c 614 [some (.ref 32), some (.ref 33), some (.ref 191), some (.int i)] [.int (gI S 32 ((i + (3 : Int32))).toNatClampNeg), .int (gI S 32 ((i + (2 : Int32))).toNatClampNeg), .int (gI S 32 ((i + (1 : Int32))).toNatClampNeg), .ref 33] (mk k S) from ?_))))
  refine JW.callV (y := m_X_may) (av := [.int (gI S 32 ((i + (1 : Int32))).toNatClampNeg), .int (gI S 32 ((i + (2 : Int32))).toNatClampNeg), .int (gI S 32 ((i + (3 : Int32))).toNatClampNeg)]) (rest := []) (q := 33) C l_law_61 d_law_614 (isC_st rfl rfl) hX rfl (Nat.le_of_ble_eq_true rfl) (D_ok hD (by decide)) ⟨Nat.le_of_ble_eq_true rfl, Nat.le_of_ble_eq_true rfl⟩ (k_le hk1) (show JL w p e s mid b below meth c 617 [some (.ref 32), some (.ref 33), some (.ref 191), some (.int i)] [.int r] (mk k1 S1) from ?_)
  have g1 : inb (i + (1 : Int32)) k1.2.1 = true := by rw [hk]; exact g1
  have g2 : inb (i + (2 : Int32)) k1.2.1 = true := by rw [hk]; exact g2
  have g3 : inb (i + (3 : Int32)) k1.2.1 = true := by rw [hk]; exact g3
  refine run_ok C b_law_617 k_law_617 (And.intro (okA_scr (S := S1) g1) (And.intro (okA_scr (S := S1) g2) (And.intro (okA_scr (S := S1) g3) (show JL w p e s mid b below meth c 633 [some (.ref 32), some (.ref 33), some (.ref 191), some (.int i)] [.int (gI S1 32 ((i + (3 : Int32))).toNatClampNeg), .int (gI S1 32 ((i + (2 : Int32))).toNatClampNeg), .int (gI S1 32 ((i + (1 : Int32))).toNatClampNeg), .ref 191, .int r] (mk k1 S1) from ?_))))
  have e32 : ∀ j, gI S1 32 j = gI S 32 j := h32
  simp only [e32]
  refine JW.callV (y := m_M_may) (av := [.int (gI S 32 ((i + (1 : Int32))).toNatClampNeg), .int (gI S 32 ((i + (2 : Int32))).toNatClampNeg), .int (gI S 32 ((i + (3 : Int32))).toNatClampNeg)]) (rest := [.int r]) (q := 191) C l_law_65 d_law_633 (isC_st rfl rfl) hM rfl (Nat.le_of_ble_eq_true rfl) (D_ok hD (by decide)) ⟨Nat.le_of_ble_eq_true rfl, Nat.le_of_ble_eq_true rfl⟩ (k_le hk1) (show JL w p e s mid b below meth c 636 [some (.ref 32), some (.ref 33), some (.ref 191), some (.int i)] [.int r, .int r] (mk k1 S2) from ?_)
  exact lwe C (tgt := 1644) d_law_636 rfl (kk k1 S2 hk hP)
def b_law_641 : List Ins := [(.aload_n 1, 0, 0, 0), (.aload_n 0, 0, 0, 0), (.iload_n 3, 0, 0, 0), (.iconst (1), 0, 0, 0), (.iadd, 0, 0, 0), (.iaload, 0, 0, 0), (.aload_n 0, 0, 0, 0), (.iload_n 3, 0, 0, 0), (.iconst (2), 0, 0, 0), (.iadd, 0, 0, 0), (.iaload, 0, 0, 0)]
theorem k_law_641 : bok m_law 641 b_law_641 = true := by decide +kernel
theorem d_law_652 : decode m_law.2.1 652 = .ok (.invokevirtual 66, 3) := by decide +kernel
theorem d_law_666 : decode m_law.2.1 666 = .ok (.invokevirtual 69, 3) := by decide +kernel
theorem d_law_669 : decode m_law.2.1 669 = .ok (.if_icmp .eq (975), 3) := by decide +kernel
def b_law_655 : List Ins := [(.aload_n 2, 0, 0, 0), (.aload_n 0, 0, 0, 0), (.iload_n 3, 0, 0, 0), (.iconst (1), 0, 0, 0), (.iadd, 0, 0, 0), (.iaload, 0, 0, 0), (.aload_n 0, 0, 0, 0), (.iload_n 3, 0, 0, 0), (.iconst (2), 0, 0, 0), (.iadd, 0, 0, 0), (.iaload, 0, 0, 0)]
theorem k_law_655 : bok m_law 655 b_law_655 = true := by decide +kernel
set_option maxHeartbeats 1000000 in
theorem lc_11 {w : Wd} {p : Program} {e : Env} {s : State} {mid : MethodId} {b : Nat} {below : List Frame} {meth : Method} {c : Code} {D : Nat} {k : cx} {S : hs} {P : cx → hs → Prop} (C : Cx w m_law p s mid #[Value.ref b] meth c) (hD : D ≤ 2000) {i : Int32} (g1 : inb (i + (1 : Int32)) k.2.1 = true) (g2 : inb (i + (2 : Int32)) k.2.1 = true) (hst : Sp2 w D m_X_walker m_M_walker [.int (gI S 32 ((i + (1 : Int32))).toNatClampNeg), .int (gI S 32 ((i + (2 : Int32))).toNatClampNeg)] k S P) (kk : ∀ k1 S2, k1.2.1 = k.2.1 → P k1 S2 → JL w p e s mid b below meth c 1644 [some (.ref 32), some (.ref 33), some (.ref 191), some (.int i)] [] (mk k1 S2)) : JL w p e s mid b below meth c 641 [some (.ref 32), some (.ref 33), some (.ref 191), some (.int i)] [] (mk k S) := by
  obtain ⟨r, k1, S1, S2, hX, hM, hk, hk1, h32, hP⟩ := hst
  refine run_ok C b_law_641 k_law_641 (And.intro (okA_scr (S := S) g1) (And.intro (okA_scr (S := S) g2) (show JL w p e s mid b below meth c 652 [some (.ref 32), some (.ref 33), some (.ref 191), some (.int i)] [.int (gI S 32 ((i + (2 : Int32))).toNatClampNeg), .int (gI S 32 ((i + (1 : Int32))).toNatClampNeg), .ref 33] (mk k S) from ?_)))
  refine JW.callV (y := m_X_walker) (av := [.int (gI S 32 ((i + (1 : Int32))).toNatClampNeg), .int (gI S 32 ((i + (2 : Int32))).toNatClampNeg)]) (rest := []) (q := 33) C l_law_66 d_law_652 (isC_st rfl rfl) hX rfl (Nat.le_of_ble_eq_true rfl) (D_ok hD (by decide)) ⟨Nat.le_of_ble_eq_true rfl, Nat.le_of_ble_eq_true rfl⟩ (k_le hk1) (show JL w p e s mid b below meth c 655 [some (.ref 32), some (.ref 33), some (.ref 191), some (.int i)] [.int r] (mk k1 S1) from ?_)
  have g1 : inb (i + (1 : Int32)) k1.2.1 = true := by rw [hk]; exact g1
  have g2 : inb (i + (2 : Int32)) k1.2.1 = true := by rw [hk]; exact g2
  refine run_ok C b_law_655 k_law_655 (And.intro (okA_scr (S := S1) g1) (And.intro (okA_scr (S := S1) g2) (show JL w p e s mid b below meth c 666 [some (.ref 32), some (.ref 33), some (.ref 191), some (.int i)] [.int (gI S1 32 ((i + (2 : Int32))).toNatClampNeg), .int (gI S1 32 ((i + (1 : Int32))).toNatClampNeg), .ref 191, .int r] (mk k1 S1) from ?_)))
  have e32 : ∀ j, gI S1 32 j = gI S 32 j := h32
  simp only [e32]
  refine JW.callV (y := m_M_walker) (av := [.int (gI S 32 ((i + (1 : Int32))).toNatClampNeg), .int (gI S 32 ((i + (2 : Int32))).toNatClampNeg)]) (rest := [.int r]) (q := 191) C l_law_69 d_law_666 (isC_st rfl rfl) hM rfl (Nat.le_of_ble_eq_true rfl) (D_ok hD (by decide)) ⟨Nat.le_of_ble_eq_true rfl, Nat.le_of_ble_eq_true rfl⟩ (k_le hk1) (show JL w p e s mid b below meth c 669 [some (.ref 32), some (.ref 33), some (.ref 191), some (.int i)] [.int r, .int r] (mk k1 S2) from ?_)
  exact lwe C (tgt := 1644) d_law_669 rfl (kk k1 S2 hk hP)
def b_law_674 : List Ins := [(.aload_n 1, 0, 0, 0), (.aload_n 0, 0, 0, 0), (.iload_n 3, 0, 0, 0), (.iconst (1), 0, 0, 0), (.iadd, 0, 0, 0), (.iaload, 0, 0, 0), (.aload_n 0, 0, 0, 0), (.iload_n 3, 0, 0, 0), (.iconst (2), 0, 0, 0), (.iadd, 0, 0, 0), (.iaload, 0, 0, 0)]
theorem k_law_674 : bok m_law 674 b_law_674 = true := by decide +kernel
theorem d_law_685 : decode m_law.2.1 685 = .ok (.invokevirtual 70, 3) := by decide +kernel
theorem d_law_699 : decode m_law.2.1 699 = .ok (.invokevirtual 73, 3) := by decide +kernel
theorem d_law_702 : decode m_law.2.1 702 = .ok (.if_icmp .eq (942), 3) := by decide +kernel
def b_law_688 : List Ins := [(.aload_n 2, 0, 0, 0), (.aload_n 0, 0, 0, 0), (.iload_n 3, 0, 0, 0), (.iconst (1), 0, 0, 0), (.iadd, 0, 0, 0), (.iaload, 0, 0, 0), (.aload_n 0, 0, 0, 0), (.iload_n 3, 0, 0, 0), (.iconst (2), 0, 0, 0), (.iadd, 0, 0, 0), (.iaload, 0, 0, 0)]
theorem k_law_688 : bok m_law 688 b_law_688 = true := by decide +kernel
set_option maxHeartbeats 1000000 in
theorem lc_12 {w : Wd} {p : Program} {e : Env} {s : State} {mid : MethodId} {b : Nat} {below : List Frame} {meth : Method} {c : Code} {D : Nat} {k : cx} {S : hs} {P : cx → hs → Prop} (C : Cx w m_law p s mid #[Value.ref b] meth c) (hD : D ≤ 2000) {i : Int32} (g1 : inb (i + (1 : Int32)) k.2.1 = true) (g2 : inb (i + (2 : Int32)) k.2.1 = true) (hst : Sp2 w D m_X_walkerOf m_M_walkerOf [.int (gI S 32 ((i + (1 : Int32))).toNatClampNeg), .int (gI S 32 ((i + (2 : Int32))).toNatClampNeg)] k S P) (kk : ∀ k1 S2, k1.2.1 = k.2.1 → P k1 S2 → JL w p e s mid b below meth c 1644 [some (.ref 32), some (.ref 33), some (.ref 191), some (.int i)] [] (mk k1 S2)) : JL w p e s mid b below meth c 674 [some (.ref 32), some (.ref 33), some (.ref 191), some (.int i)] [] (mk k S) := by
  obtain ⟨r, k1, S1, S2, hX, hM, hk, hk1, h32, hP⟩ := hst
  refine run_ok C b_law_674 k_law_674 (And.intro (okA_scr (S := S) g1) (And.intro (okA_scr (S := S) g2) (show JL w p e s mid b below meth c 685 [some (.ref 32), some (.ref 33), some (.ref 191), some (.int i)] [.int (gI S 32 ((i + (2 : Int32))).toNatClampNeg), .int (gI S 32 ((i + (1 : Int32))).toNatClampNeg), .ref 33] (mk k S) from ?_)))
  refine JW.callV (y := m_X_walkerOf) (av := [.int (gI S 32 ((i + (1 : Int32))).toNatClampNeg), .int (gI S 32 ((i + (2 : Int32))).toNatClampNeg)]) (rest := []) (q := 33) C l_law_70 d_law_685 (isC_st rfl rfl) hX rfl (Nat.le_of_ble_eq_true rfl) (D_ok hD (by decide)) ⟨Nat.le_of_ble_eq_true rfl, Nat.le_of_ble_eq_true rfl⟩ (k_le hk1) (show JL w p e s mid b below meth c 688 [some (.ref 32), some (.ref 33), some (.ref 191), some (.int i)] [.int r] (mk k1 S1) from ?_)
  have g1 : inb (i + (1 : Int32)) k1.2.1 = true := by rw [hk]; exact g1
  have g2 : inb (i + (2 : Int32)) k1.2.1 = true := by rw [hk]; exact g2
  refine run_ok C b_law_688 k_law_688 (And.intro (okA_scr (S := S1) g1) (And.intro (okA_scr (S := S1) g2) (show JL w p e s mid b below meth c 699 [some (.ref 32), some (.ref 33), some (.ref 191), some (.int i)] [.int (gI S1 32 ((i + (2 : Int32))).toNatClampNeg), .int (gI S1 32 ((i + (1 : Int32))).toNatClampNeg), .ref 191, .int r] (mk k1 S1) from ?_)))
  have e32 : ∀ j, gI S1 32 j = gI S 32 j := h32
  simp only [e32]
  refine JW.callV (y := m_M_walkerOf) (av := [.int (gI S 32 ((i + (1 : Int32))).toNatClampNeg), .int (gI S 32 ((i + (2 : Int32))).toNatClampNeg)]) (rest := [.int r]) (q := 191) C l_law_73 d_law_699 (isC_st rfl rfl) hM rfl (Nat.le_of_ble_eq_true rfl) (D_ok hD (by decide)) ⟨Nat.le_of_ble_eq_true rfl, Nat.le_of_ble_eq_true rfl⟩ (k_le hk1) (show JL w p e s mid b below meth c 702 [some (.ref 32), some (.ref 33), some (.ref 191), some (.int i)] [.int r, .int r] (mk k1 S2) from ?_)
  exact lwe C (tgt := 1644) d_law_702 rfl (kk k1 S2 hk hP)
def b_law_707 : List Ins := [(.aload_n 1, 0, 0, 0), (.aload_n 0, 0, 0, 0), (.iload_n 3, 0, 0, 0), (.iconst (1), 0, 0, 0), (.iadd, 0, 0, 0), (.iaload, 0, 0, 0), (.aload_n 0, 0, 0, 0), (.iload_n 3, 0, 0, 0), (.iconst (2), 0, 0, 0), (.iadd, 0, 0, 0), (.iaload, 0, 0, 0)]
theorem k_law_707 : bok m_law 707 b_law_707 = true := by decide +kernel
theorem d_law_718 : decode m_law.2.1 718 = .ok (.invokevirtual 74, 3) := by decide +kernel
theorem d_law_732 : decode m_law.2.1 732 = .ok (.invokevirtual 77, 3) := by decide +kernel
theorem d_law_735 : decode m_law.2.1 735 = .ok (.if_icmp .eq (909), 3) := by decide +kernel
def b_law_721 : List Ins := [(.aload_n 2, 0, 0, 0), (.aload_n 0, 0, 0, 0), (.iload_n 3, 0, 0, 0), (.iconst (1), 0, 0, 0), (.iadd, 0, 0, 0), (.iaload, 0, 0, 0), (.aload_n 0, 0, 0, 0), (.iload_n 3, 0, 0, 0), (.iconst (2), 0, 0, 0), (.iadd, 0, 0, 0), (.iaload, 0, 0, 0)]
theorem k_law_721 : bok m_law 721 b_law_721 = true := by decide +kernel
set_option maxHeartbeats 1000000 in
theorem lc_13 {w : Wd} {p : Program} {e : Env} {s : State} {mid : MethodId} {b : Nat} {below : List Frame} {meth : Method} {c : Code} {D : Nat} {k : cx} {S : hs} {P : cx → hs → Prop} (C : Cx w m_law p s mid #[Value.ref b] meth c) (hD : D ≤ 2000) {i : Int32} (g1 : inb (i + (1 : Int32)) k.2.1 = true) (g2 : inb (i + (2 : Int32)) k.2.1 = true) (hst : Sp2 w D m_X_go m_M_go [.int (gI S 32 ((i + (1 : Int32))).toNatClampNeg), .int (gI S 32 ((i + (2 : Int32))).toNatClampNeg)] k S P) (kk : ∀ k1 S2, k1.2.1 = k.2.1 → P k1 S2 → JL w p e s mid b below meth c 1644 [some (.ref 32), some (.ref 33), some (.ref 191), some (.int i)] [] (mk k1 S2)) : JL w p e s mid b below meth c 707 [some (.ref 32), some (.ref 33), some (.ref 191), some (.int i)] [] (mk k S) := by
  obtain ⟨r, k1, S1, S2, hX, hM, hk, hk1, h32, hP⟩ := hst
  refine run_ok C b_law_707 k_law_707 (And.intro (okA_scr (S := S) g1) (And.intro (okA_scr (S := S) g2) (show JL w p e s mid b below meth c 718 [some (.ref 32), some (.ref 33), some (.ref 191), some (.int i)] [.int (gI S 32 ((i + (2 : Int32))).toNatClampNeg), .int (gI S 32 ((i + (1 : Int32))).toNatClampNeg), .ref 33] (mk k S) from ?_)))
  refine JW.callV (y := m_X_go) (av := [.int (gI S 32 ((i + (1 : Int32))).toNatClampNeg), .int (gI S 32 ((i + (2 : Int32))).toNatClampNeg)]) (rest := []) (q := 33) C l_law_74 d_law_718 (isC_st rfl rfl) hX rfl (Nat.le_of_ble_eq_true rfl) (D_ok hD (by decide)) ⟨Nat.le_of_ble_eq_true rfl, Nat.le_of_ble_eq_true rfl⟩ (k_le hk1) (show JL w p e s mid b below meth c 721 [some (.ref 32), some (.ref 33), some (.ref 191), some (.int i)] [.int r] (mk k1 S1) from ?_)
  have g1 : inb (i + (1 : Int32)) k1.2.1 = true := by rw [hk]; exact g1
  have g2 : inb (i + (2 : Int32)) k1.2.1 = true := by rw [hk]; exact g2
  refine run_ok C b_law_721 k_law_721 (And.intro (okA_scr (S := S1) g1) (And.intro (okA_scr (S := S1) g2) (show JL w p e s mid b below meth c 732 [some (.ref 32), some (.ref 33), some (.ref 191), some (.int i)] [.int (gI S1 32 ((i + (2 : Int32))).toNatClampNeg), .int (gI S1 32 ((i + (1 : Int32))).toNatClampNeg), .ref 191, .int r] (mk k1 S1) from ?_)))
  have e32 : ∀ j, gI S1 32 j = gI S 32 j := h32
  simp only [e32]
  refine JW.callV (y := m_M_go) (av := [.int (gI S 32 ((i + (1 : Int32))).toNatClampNeg), .int (gI S 32 ((i + (2 : Int32))).toNatClampNeg)]) (rest := [.int r]) (q := 191) C l_law_77 d_law_732 (isC_st rfl rfl) hM rfl (Nat.le_of_ble_eq_true rfl) (D_ok hD (by decide)) ⟨Nat.le_of_ble_eq_true rfl, Nat.le_of_ble_eq_true rfl⟩ (k_le hk1) (show JL w p e s mid b below meth c 735 [some (.ref 32), some (.ref 33), some (.ref 191), some (.int i)] [.int r, .int r] (mk k1 S2) from ?_)
  exact lwe C (tgt := 1644) d_law_735 rfl (kk k1 S2 hk hP)
def b_law_740 : List Ins := [(.aload_n 1, 0, 0, 0), (.aload_n 0, 0, 0, 0), (.iload_n 3, 0, 0, 0), (.iconst (1), 0, 0, 0), (.iadd, 0, 0, 0), (.iaload, 0, 0, 0), (.aload_n 0, 0, 0, 0), (.iload_n 3, 0, 0, 0), (.iconst (2), 0, 0, 0), (.iadd, 0, 0, 0), (.iaload, 0, 0, 0)]
theorem k_law_740 : bok m_law 740 b_law_740 = true := by decide +kernel
theorem d_law_751 : decode m_law.2.1 751 = .ok (.invokevirtual 78, 3) := by decide +kernel
theorem d_law_765 : decode m_law.2.1 765 = .ok (.invokevirtual 81, 3) := by decide +kernel
theorem d_law_768 : decode m_law.2.1 768 = .ok (.if_icmp .eq (876), 3) := by decide +kernel
def b_law_754 : List Ins := [(.aload_n 2, 0, 0, 0), (.aload_n 0, 0, 0, 0), (.iload_n 3, 0, 0, 0), (.iconst (1), 0, 0, 0), (.iadd, 0, 0, 0), (.iaload, 0, 0, 0), (.aload_n 0, 0, 0, 0), (.iload_n 3, 0, 0, 0), (.iconst (2), 0, 0, 0), (.iadd, 0, 0, 0), (.iaload, 0, 0, 0)]
theorem k_law_754 : bok m_law 754 b_law_754 = true := by decide +kernel
set_option maxHeartbeats 1000000 in
theorem lc_14 {w : Wd} {p : Program} {e : Env} {s : State} {mid : MethodId} {b : Nat} {below : List Frame} {meth : Method} {c : Code} {D : Nat} {k : cx} {S : hs} {P : cx → hs → Prop} (C : Cx w m_law p s mid #[Value.ref b] meth c) (hD : D ≤ 2000) {i : Int32} (g1 : inb (i + (1 : Int32)) k.2.1 = true) (g2 : inb (i + (2 : Int32)) k.2.1 = true) (hst : Sp2 w D m_X_put m_M_put [.int (gI S 32 ((i + (1 : Int32))).toNatClampNeg), .int (gI S 32 ((i + (2 : Int32))).toNatClampNeg)] k S P) (kk : ∀ k1 S2, k1.2.1 = k.2.1 → P k1 S2 → JL w p e s mid b below meth c 1644 [some (.ref 32), some (.ref 33), some (.ref 191), some (.int i)] [] (mk k1 S2)) : JL w p e s mid b below meth c 740 [some (.ref 32), some (.ref 33), some (.ref 191), some (.int i)] [] (mk k S) := by
  obtain ⟨r, k1, S1, S2, hX, hM, hk, hk1, h32, hP⟩ := hst
  refine run_ok C b_law_740 k_law_740 (And.intro (okA_scr (S := S) g1) (And.intro (okA_scr (S := S) g2) (show JL w p e s mid b below meth c 751 [some (.ref 32), some (.ref 33), some (.ref 191), some (.int i)] [.int (gI S 32 ((i + (2 : Int32))).toNatClampNeg), .int (gI S 32 ((i + (1 : Int32))).toNatClampNeg), .ref 33] (mk k S) from ?_)))
  refine JW.callV (y := m_X_put) (av := [.int (gI S 32 ((i + (1 : Int32))).toNatClampNeg), .int (gI S 32 ((i + (2 : Int32))).toNatClampNeg)]) (rest := []) (q := 33) C l_law_78 d_law_751 (isC_st rfl rfl) hX rfl (Nat.le_of_ble_eq_true rfl) (D_ok hD (by decide)) ⟨Nat.le_of_ble_eq_true rfl, Nat.le_of_ble_eq_true rfl⟩ (k_le hk1) (show JL w p e s mid b below meth c 754 [some (.ref 32), some (.ref 33), some (.ref 191), some (.int i)] [.int r] (mk k1 S1) from ?_)
  have g1 : inb (i + (1 : Int32)) k1.2.1 = true := by rw [hk]; exact g1
  have g2 : inb (i + (2 : Int32)) k1.2.1 = true := by rw [hk]; exact g2
  refine run_ok C b_law_754 k_law_754 (And.intro (okA_scr (S := S1) g1) (And.intro (okA_scr (S := S1) g2) (show JL w p e s mid b below meth c 765 [some (.ref 32), some (.ref 33), some (.ref 191), some (.int i)] [.int (gI S1 32 ((i + (2 : Int32))).toNatClampNeg), .int (gI S1 32 ((i + (1 : Int32))).toNatClampNeg), .ref 191, .int r] (mk k1 S1) from ?_)))
  have e32 : ∀ j, gI S1 32 j = gI S 32 j := h32
  simp only [e32]
  refine JW.callV (y := m_M_put) (av := [.int (gI S 32 ((i + (1 : Int32))).toNatClampNeg), .int (gI S 32 ((i + (2 : Int32))).toNatClampNeg)]) (rest := [.int r]) (q := 191) C l_law_81 d_law_765 (isC_st rfl rfl) hM rfl (Nat.le_of_ble_eq_true rfl) (D_ok hD (by decide)) ⟨Nat.le_of_ble_eq_true rfl, Nat.le_of_ble_eq_true rfl⟩ (k_le hk1) (show JL w p e s mid b below meth c 768 [some (.ref 32), some (.ref 33), some (.ref 191), some (.int i)] [.int r, .int r] (mk k1 S2) from ?_)
  exact lwe C (tgt := 1644) d_law_768 rfl (kk k1 S2 hk hP)
def b_law_773 : List Ins := [(.aload_n 1, 0, 0, 0), (.aload_n 0, 0, 0, 0), (.iload_n 3, 0, 0, 0), (.iconst (1), 0, 0, 0), (.iadd, 0, 0, 0), (.iaload, 0, 0, 0), (.aload_n 0, 0, 0, 0), (.iload_n 3, 0, 0, 0), (.iconst (2), 0, 0, 0), (.iadd, 0, 0, 0), (.iaload, 0, 0, 0), (.aload_n 0, 0, 0, 0), (.iload_n 3, 0, 0, 0), (.iconst (3), 0, 0, 0), (.iadd, 0, 0, 0), (.iaload, 0, 0, 0)]
theorem k_law_773 : bok m_law 773 b_law_773 = true := by decide +kernel
theorem d_law_789 : decode m_law.2.1 789 = .ok (.invokevirtual 82, 3) := by decide +kernel
theorem d_law_808 : decode m_law.2.1 808 = .ok (.invokevirtual 85, 3) := by decide +kernel
theorem d_law_811 : decode m_law.2.1 811 = .ok (.if_icmp .eq (833), 3) := by decide +kernel
def b_law_792 : List Ins := [(.aload_n 2, 0, 0, 0), (.aload_n 0, 0, 0, 0), (.iload_n 3, 0, 0, 0), (.iconst (1), 0, 0, 0), (.iadd, 0, 0, 0), (.iaload, 0, 0, 0), (.aload_n 0, 0, 0, 0), (.iload_n 3, 0, 0, 0), (.iconst (2), 0, 0, 0), (.iadd, 0, 0, 0), (.iaload, 0, 0, 0), (.aload_n 0, 0, 0, 0), (.iload_n 3, 0, 0, 0), (.iconst (3), 0, 0, 0), (.iadd, 0, 0, 0), (.iaload, 0, 0, 0)]
theorem k_law_792 : bok m_law 792 b_law_792 = true := by decide +kernel
set_option maxHeartbeats 1000000 in
theorem lc_15 {w : Wd} {p : Program} {e : Env} {s : State} {mid : MethodId} {b : Nat} {below : List Frame} {meth : Method} {c : Code} {D : Nat} {k : cx} {S : hs} {P : cx → hs → Prop} (C : Cx w m_law p s mid #[Value.ref b] meth c) (hD : D ≤ 2000) {i : Int32} (g1 : inb (i + (1 : Int32)) k.2.1 = true) (g2 : inb (i + (2 : Int32)) k.2.1 = true) (g3 : inb (i + (3 : Int32)) k.2.1 = true) (hst : Sp2 w D m_X_far m_M_far [.int (gI S 32 ((i + (1 : Int32))).toNatClampNeg), .int (gI S 32 ((i + (2 : Int32))).toNatClampNeg), .int (gI S 32 ((i + (3 : Int32))).toNatClampNeg)] k S P) (kk : ∀ k1 S2, k1.2.1 = k.2.1 → P k1 S2 → JL w p e s mid b below meth c 1644 [some (.ref 32), some (.ref 33), some (.ref 191), some (.int i)] [] (mk k1 S2)) : JL w p e s mid b below meth c 773 [some (.ref 32), some (.ref 33), some (.ref 191), some (.int i)] [] (mk k S) := by
  obtain ⟨r, k1, S1, S2, hX, hM, hk, hk1, h32, hP⟩ := hst
  refine run_ok C b_law_773 k_law_773 (And.intro (okA_scr (S := S) g1) (And.intro (okA_scr (S := S) g2) (And.intro (okA_scr (S := S) g3) (show JL w p e s mid b below meth c 789 [some (.ref 32), some (.ref 33), some (.ref 191), some (.int i)] [.int (gI S 32 ((i + (3 : Int32))).toNatClampNeg), .int (gI S 32 ((i + (2 : Int32))).toNatClampNeg), .int (gI S 32 ((i + (1 : Int32))).toNatClampNeg), .ref 33] (mk k S) from ?_))))
  refine JW.callV (y := m_X_far) (av := [.int (gI S 32 ((i + (1 : Int32))).toNatClampNeg), .int (gI S 32 ((i + (2 : Int32))).toNatClampNeg), .int (gI S 32 ((i + (3 : Int32))).toNatClampNeg)]) (rest := []) (q := 33) C l_law_82 d_law_789 (isC_st rfl rfl) hX rfl (Nat.le_of_ble_eq_true rfl) (D_ok hD (by decide)) ⟨Nat.le_of_ble_eq_true rfl, Nat.le_of_ble_eq_true rfl⟩ (k_le hk1) (show JL w p e s mid b below meth c 792 [some (.ref 32), some (.ref 33), some (.ref 191), some (.int i)] [.int r] (mk k1 S1) from ?_)
  have g1 : inb (i + (1 : Int32)) k1.2.1 = true := by rw [hk]; exact g1
  have g2 : inb (i + (2 : Int32)) k1.2.1 = true := by rw [hk]; exact g2
  have g3 : inb (i + (3 : Int32)) k1.2.1 = true := by rw [hk]; exact g3
  refine run_ok C b_law_792 k_law_792 (And.intro (okA_scr (S := S1) g1) (And.intro (okA_scr (S := S1) g2) (And.intro (okA_scr (S := S1) g3) (show JL w p e s mid b below meth c 808 [some (.ref 32), some (.ref 33), some (.ref 191), some (.int i)] [.int (gI S1 32 ((i + (3 : Int32))).toNatClampNeg), .int (gI S1 32 ((i + (2 : Int32))).toNatClampNeg), .int (gI S1 32 ((i + (1 : Int32))).toNatClampNeg), .ref 191, .int r] (mk k1 S1) from ?_))))
  have e32 : ∀ j, gI S1 32 j = gI S 32 j := h32
  simp only [e32]
  refine JW.callV (y := m_M_far) (av := [.int (gI S 32 ((i + (1 : Int32))).toNatClampNeg), .int (gI S 32 ((i + (2 : Int32))).toNatClampNeg), .int (gI S 32 ((i + (3 : Int32))).toNatClampNeg)]) (rest := [.int r]) (q := 191) C l_law_85 d_law_808 (isC_st rfl rfl) hM rfl (Nat.le_of_ble_eq_true rfl) (D_ok hD (by decide)) ⟨Nat.le_of_ble_eq_true rfl, Nat.le_of_ble_eq_true rfl⟩ (k_le hk1) (show JL w p e s mid b below meth c 811 [some (.ref 32), some (.ref 33), some (.ref 191), some (.int i)] [.int r, .int r] (mk k1 S2) from ?_)
  exact lwe C (tgt := 1644) d_law_811 rfl (kk k1 S2 hk hP)
def b_law_816 : List Ins := [(.aload_n 1, 0, 0, 0), (.aload_n 0, 0, 0, 0), (.iload_n 3, 0, 0, 0), (.iconst (1), 0, 0, 0), (.iadd, 0, 0, 0), (.iaload, 0, 0, 0), (.aload_n 0, 0, 0, 0), (.iload_n 3, 0, 0, 0), (.iconst (2), 0, 0, 0), (.iadd, 0, 0, 0), (.iaload, 0, 0, 0), (.aload_n 0, 0, 0, 0), (.iload_n 3, 0, 0, 0), (.iconst (3), 0, 0, 0), (.iadd, 0, 0, 0), (.iaload, 0, 0, 0)]
theorem k_law_816 : bok m_law 816 b_law_816 = true := by decide +kernel
theorem d_law_832 : decode m_law.2.1 832 = .ok (.invokevirtual 86, 3) := by decide +kernel
theorem d_law_851 : decode m_law.2.1 851 = .ok (.invokevirtual 89, 3) := by decide +kernel
theorem d_law_854 : decode m_law.2.1 854 = .ok (.if_icmp .eq (790), 3) := by decide +kernel
def b_law_835 : List Ins := [(.aload_n 2, 0, 0, 0), (.aload_n 0, 0, 0, 0), (.iload_n 3, 0, 0, 0), (.iconst (1), 0, 0, 0), (.iadd, 0, 0, 0), (.iaload, 0, 0, 0), (.aload_n 0, 0, 0, 0), (.iload_n 3, 0, 0, 0), (.iconst (2), 0, 0, 0), (.iadd, 0, 0, 0), (.iaload, 0, 0, 0), (.aload_n 0, 0, 0, 0), (.iload_n 3, 0, 0, 0), (.iconst (3), 0, 0, 0), (.iadd, 0, 0, 0), (.iaload, 0, 0, 0)]
theorem k_law_835 : bok m_law 835 b_law_835 = true := by decide +kernel
set_option maxHeartbeats 1000000 in
theorem lc_16 {w : Wd} {p : Program} {e : Env} {s : State} {mid : MethodId} {b : Nat} {below : List Frame} {meth : Method} {c : Code} {D : Nat} {k : cx} {S : hs} {P : cx → hs → Prop} (C : Cx w m_law p s mid #[Value.ref b] meth c) (hD : D ≤ 2000) {i : Int32} (g1 : inb (i + (1 : Int32)) k.2.1 = true) (g2 : inb (i + (2 : Int32)) k.2.1 = true) (g3 : inb (i + (3 : Int32)) k.2.1 = true) (hst : Sp2 w D m_X_first m_M_first [.int (gI S 32 ((i + (1 : Int32))).toNatClampNeg), .int (gI S 32 ((i + (2 : Int32))).toNatClampNeg), .int (gI S 32 ((i + (3 : Int32))).toNatClampNeg)] k S P) (kk : ∀ k1 S2, k1.2.1 = k.2.1 → P k1 S2 → JL w p e s mid b below meth c 1644 [some (.ref 32), some (.ref 33), some (.ref 191), some (.int i)] [] (mk k1 S2)) : JL w p e s mid b below meth c 816 [some (.ref 32), some (.ref 33), some (.ref 191), some (.int i)] [] (mk k S) := by
  obtain ⟨r, k1, S1, S2, hX, hM, hk, hk1, h32, hP⟩ := hst
  refine run_ok C b_law_816 k_law_816 (And.intro (okA_scr (S := S) g1) (And.intro (okA_scr (S := S) g2) (And.intro (okA_scr (S := S) g3) (show JL w p e s mid b below meth c 832 [some (.ref 32), some (.ref 33), some (.ref 191), some (.int i)] [.int (gI S 32 ((i + (3 : Int32))).toNatClampNeg), .int (gI S 32 ((i + (2 : Int32))).toNatClampNeg), .int (gI S 32 ((i + (1 : Int32))).toNatClampNeg), .ref 33] (mk k S) from ?_))))
  refine JW.callV (y := m_X_first) (av := [.int (gI S 32 ((i + (1 : Int32))).toNatClampNeg), .int (gI S 32 ((i + (2 : Int32))).toNatClampNeg), .int (gI S 32 ((i + (3 : Int32))).toNatClampNeg)]) (rest := []) (q := 33) C l_law_86 d_law_832 (isC_st rfl rfl) hX rfl (Nat.le_of_ble_eq_true rfl) (D_ok hD (by decide)) ⟨Nat.le_of_ble_eq_true rfl, Nat.le_of_ble_eq_true rfl⟩ (k_le hk1) (show JL w p e s mid b below meth c 835 [some (.ref 32), some (.ref 33), some (.ref 191), some (.int i)] [.int r] (mk k1 S1) from ?_)
  have g1 : inb (i + (1 : Int32)) k1.2.1 = true := by rw [hk]; exact g1
  have g2 : inb (i + (2 : Int32)) k1.2.1 = true := by rw [hk]; exact g2
  have g3 : inb (i + (3 : Int32)) k1.2.1 = true := by rw [hk]; exact g3
  refine run_ok C b_law_835 k_law_835 (And.intro (okA_scr (S := S1) g1) (And.intro (okA_scr (S := S1) g2) (And.intro (okA_scr (S := S1) g3) (show JL w p e s mid b below meth c 851 [some (.ref 32), some (.ref 33), some (.ref 191), some (.int i)] [.int (gI S1 32 ((i + (3 : Int32))).toNatClampNeg), .int (gI S1 32 ((i + (2 : Int32))).toNatClampNeg), .int (gI S1 32 ((i + (1 : Int32))).toNatClampNeg), .ref 191, .int r] (mk k1 S1) from ?_))))
  have e32 : ∀ j, gI S1 32 j = gI S 32 j := h32
  simp only [e32]
  refine JW.callV (y := m_M_first) (av := [.int (gI S 32 ((i + (1 : Int32))).toNatClampNeg), .int (gI S 32 ((i + (2 : Int32))).toNatClampNeg), .int (gI S 32 ((i + (3 : Int32))).toNatClampNeg)]) (rest := [.int r]) (q := 191) C l_law_89 d_law_851 (isC_st rfl rfl) hM rfl (Nat.le_of_ble_eq_true rfl) (D_ok hD (by decide)) ⟨Nat.le_of_ble_eq_true rfl, Nat.le_of_ble_eq_true rfl⟩ (k_le hk1) (show JL w p e s mid b below meth c 854 [some (.ref 32), some (.ref 33), some (.ref 191), some (.int i)] [.int r, .int r] (mk k1 S2) from ?_)
  exact lwe C (tgt := 1644) d_law_854 rfl (kk k1 S2 hk hP)
def b_law_859 : List Ins := [(.aload_n 1, 0, 0, 0), (.aload_n 0, 0, 0, 0), (.iload_n 3, 0, 0, 0), (.iconst (1), 0, 0, 0), (.iadd, 0, 0, 0), (.iaload, 0, 0, 0), (.aload_n 0, 0, 0, 0), (.iload_n 3, 0, 0, 0), (.iconst (2), 0, 0, 0), (.iadd, 0, 0, 0), (.iaload, 0, 0, 0)]
theorem k_law_859 : bok m_law 859 b_law_859 = true := by decide +kernel
theorem d_law_870 : decode m_law.2.1 870 = .ok (.invokevirtual 90, 3) := by decide +kernel
theorem d_law_884 : decode m_law.2.1 884 = .ok (.invokevirtual 93, 3) := by decide +kernel
theorem d_law_887 : decode m_law.2.1 887 = .ok (.if_icmp .eq (757), 3) := by decide +kernel
def b_law_873 : List Ins := [(.aload_n 2, 0, 0, 0), (.aload_n 0, 0, 0, 0), (.iload_n 3, 0, 0, 0), (.iconst (1), 0, 0, 0), (.iadd, 0, 0, 0), (.iaload, 0, 0, 0), (.aload_n 0, 0, 0, 0), (.iload_n 3, 0, 0, 0), (.iconst (2), 0, 0, 0), (.iadd, 0, 0, 0), (.iaload, 0, 0, 0)]
theorem k_law_873 : bok m_law 873 b_law_873 = true := by decide +kernel
set_option maxHeartbeats 1000000 in
theorem lc_17 {w : Wd} {p : Program} {e : Env} {s : State} {mid : MethodId} {b : Nat} {below : List Frame} {meth : Method} {c : Code} {D : Nat} {k : cx} {S : hs} {P : cx → hs → Prop} (C : Cx w m_law p s mid #[Value.ref b] meth c) (hD : D ≤ 2000) {i : Int32} (g1 : inb (i + (1 : Int32)) k.2.1 = true) (g2 : inb (i + (2 : Int32)) k.2.1 = true) (hst : Sp2 w D m_X_free m_M_free [.int (gI S 32 ((i + (1 : Int32))).toNatClampNeg), .int (gI S 32 ((i + (2 : Int32))).toNatClampNeg)] k S P) (kk : ∀ k1 S2, k1.2.1 = k.2.1 → P k1 S2 → JL w p e s mid b below meth c 1644 [some (.ref 32), some (.ref 33), some (.ref 191), some (.int i)] [] (mk k1 S2)) : JL w p e s mid b below meth c 859 [some (.ref 32), some (.ref 33), some (.ref 191), some (.int i)] [] (mk k S) := by
  obtain ⟨r, k1, S1, S2, hX, hM, hk, hk1, h32, hP⟩ := hst
  refine run_ok C b_law_859 k_law_859 (And.intro (okA_scr (S := S) g1) (And.intro (okA_scr (S := S) g2) (show JL w p e s mid b below meth c 870 [some (.ref 32), some (.ref 33), some (.ref 191), some (.int i)] [.int (gI S 32 ((i + (2 : Int32))).toNatClampNeg), .int (gI S 32 ((i + (1 : Int32))).toNatClampNeg), .ref 33] (mk k S) from ?_)))
  refine JW.callV (y := m_X_free) (av := [.int (gI S 32 ((i + (1 : Int32))).toNatClampNeg), .int (gI S 32 ((i + (2 : Int32))).toNatClampNeg)]) (rest := []) (q := 33) C l_law_90 d_law_870 (isC_st rfl rfl) hX rfl (Nat.le_of_ble_eq_true rfl) (D_ok hD (by decide)) ⟨Nat.le_of_ble_eq_true rfl, Nat.le_of_ble_eq_true rfl⟩ (k_le hk1) (show JL w p e s mid b below meth c 873 [some (.ref 32), some (.ref 33), some (.ref 191), some (.int i)] [.int r] (mk k1 S1) from ?_)
  have g1 : inb (i + (1 : Int32)) k1.2.1 = true := by rw [hk]; exact g1
  have g2 : inb (i + (2 : Int32)) k1.2.1 = true := by rw [hk]; exact g2
  refine run_ok C b_law_873 k_law_873 (And.intro (okA_scr (S := S1) g1) (And.intro (okA_scr (S := S1) g2) (show JL w p e s mid b below meth c 884 [some (.ref 32), some (.ref 33), some (.ref 191), some (.int i)] [.int (gI S1 32 ((i + (2 : Int32))).toNatClampNeg), .int (gI S1 32 ((i + (1 : Int32))).toNatClampNeg), .ref 191, .int r] (mk k1 S1) from ?_)))
  have e32 : ∀ j, gI S1 32 j = gI S 32 j := h32
  simp only [e32]
  refine JW.callV (y := m_M_free) (av := [.int (gI S 32 ((i + (1 : Int32))).toNatClampNeg), .int (gI S 32 ((i + (2 : Int32))).toNatClampNeg)]) (rest := [.int r]) (q := 191) C l_law_93 d_law_884 (isC_st rfl rfl) hM rfl (Nat.le_of_ble_eq_true rfl) (D_ok hD (by decide)) ⟨Nat.le_of_ble_eq_true rfl, Nat.le_of_ble_eq_true rfl⟩ (k_le hk1) (show JL w p e s mid b below meth c 887 [some (.ref 32), some (.ref 33), some (.ref 191), some (.int i)] [.int r, .int r] (mk k1 S2) from ?_)
  exact lwe C (tgt := 1644) d_law_887 rfl (kk k1 S2 hk hP)
def b_law_892 : List Ins := [(.aload_n 1, 0, 0, 0), (.aload_n 0, 0, 0, 0), (.iload_n 3, 0, 0, 0), (.iconst (1), 0, 0, 0), (.iadd, 0, 0, 0), (.iaload, 0, 0, 0), (.aload_n 0, 0, 0, 0), (.iload_n 3, 0, 0, 0), (.iconst (2), 0, 0, 0), (.iadd, 0, 0, 0), (.iaload, 0, 0, 0)]
theorem k_law_892 : bok m_law 892 b_law_892 = true := by decide +kernel
theorem d_law_903 : decode m_law.2.1 903 = .ok (.invokevirtual 94, 3) := by decide +kernel
theorem d_law_917 : decode m_law.2.1 917 = .ok (.invokevirtual 97, 3) := by decide +kernel
theorem d_law_920 : decode m_law.2.1 920 = .ok (.if_icmp .eq (724), 3) := by decide +kernel
def b_law_906 : List Ins := [(.aload_n 2, 0, 0, 0), (.aload_n 0, 0, 0, 0), (.iload_n 3, 0, 0, 0), (.iconst (1), 0, 0, 0), (.iadd, 0, 0, 0), (.iaload, 0, 0, 0), (.aload_n 0, 0, 0, 0), (.iload_n 3, 0, 0, 0), (.iconst (2), 0, 0, 0), (.iadd, 0, 0, 0), (.iaload, 0, 0, 0)]
theorem k_law_906 : bok m_law 906 b_law_906 = true := by decide +kernel
set_option maxHeartbeats 1000000 in
theorem lc_18 {w : Wd} {p : Program} {e : Env} {s : State} {mid : MethodId} {b : Nat} {below : List Frame} {meth : Method} {c : Code} {D : Nat} {k : cx} {S : hs} {P : cx → hs → Prop} (C : Cx w m_law p s mid #[Value.ref b] meth c) (hD : D ≤ 2000) {i : Int32} (g1 : inb (i + (1 : Int32)) k.2.1 = true) (g2 : inb (i + (2 : Int32)) k.2.1 = true) (hst : Sp2 w D m_X_reach m_M_reach [.int (gI S 32 ((i + (1 : Int32))).toNatClampNeg), .int (gI S 32 ((i + (2 : Int32))).toNatClampNeg)] k S P) (kk : ∀ k1 S2, k1.2.1 = k.2.1 → P k1 S2 → JL w p e s mid b below meth c 1644 [some (.ref 32), some (.ref 33), some (.ref 191), some (.int i)] [] (mk k1 S2)) : JL w p e s mid b below meth c 892 [some (.ref 32), some (.ref 33), some (.ref 191), some (.int i)] [] (mk k S) := by
  obtain ⟨r, k1, S1, S2, hX, hM, hk, hk1, h32, hP⟩ := hst
  refine run_ok C b_law_892 k_law_892 (And.intro (okA_scr (S := S) g1) (And.intro (okA_scr (S := S) g2) (show JL w p e s mid b below meth c 903 [some (.ref 32), some (.ref 33), some (.ref 191), some (.int i)] [.int (gI S 32 ((i + (2 : Int32))).toNatClampNeg), .int (gI S 32 ((i + (1 : Int32))).toNatClampNeg), .ref 33] (mk k S) from ?_)))
  refine JW.callV (y := m_X_reach) (av := [.int (gI S 32 ((i + (1 : Int32))).toNatClampNeg), .int (gI S 32 ((i + (2 : Int32))).toNatClampNeg)]) (rest := []) (q := 33) C l_law_94 d_law_903 (isC_st rfl rfl) hX rfl (Nat.le_of_ble_eq_true rfl) (D_ok hD (by decide)) ⟨Nat.le_of_ble_eq_true rfl, Nat.le_of_ble_eq_true rfl⟩ (k_le hk1) (show JL w p e s mid b below meth c 906 [some (.ref 32), some (.ref 33), some (.ref 191), some (.int i)] [.int r] (mk k1 S1) from ?_)
  have g1 : inb (i + (1 : Int32)) k1.2.1 = true := by rw [hk]; exact g1
  have g2 : inb (i + (2 : Int32)) k1.2.1 = true := by rw [hk]; exact g2
  refine run_ok C b_law_906 k_law_906 (And.intro (okA_scr (S := S1) g1) (And.intro (okA_scr (S := S1) g2) (show JL w p e s mid b below meth c 917 [some (.ref 32), some (.ref 33), some (.ref 191), some (.int i)] [.int (gI S1 32 ((i + (2 : Int32))).toNatClampNeg), .int (gI S1 32 ((i + (1 : Int32))).toNatClampNeg), .ref 191, .int r] (mk k1 S1) from ?_)))
  have e32 : ∀ j, gI S1 32 j = gI S 32 j := h32
  simp only [e32]
  refine JW.callV (y := m_M_reach) (av := [.int (gI S 32 ((i + (1 : Int32))).toNatClampNeg), .int (gI S 32 ((i + (2 : Int32))).toNatClampNeg)]) (rest := [.int r]) (q := 191) C l_law_97 d_law_917 (isC_st rfl rfl) hM rfl (Nat.le_of_ble_eq_true rfl) (D_ok hD (by decide)) ⟨Nat.le_of_ble_eq_true rfl, Nat.le_of_ble_eq_true rfl⟩ (k_le hk1) (show JL w p e s mid b below meth c 920 [some (.ref 32), some (.ref 33), some (.ref 191), some (.int i)] [.int r, .int r] (mk k1 S2) from ?_)
  exact lwe C (tgt := 1644) d_law_920 rfl (kk k1 S2 hk hP)
def b_law_925 : List Ins := [(.aload_n 1, 0, 0, 0), (.aload_n 0, 0, 0, 0), (.iload_n 3, 0, 0, 0), (.iconst (1), 0, 0, 0), (.iadd, 0, 0, 0), (.iaload, 0, 0, 0)]
theorem k_law_925 : bok m_law 925 b_law_925 = true := by decide +kernel
theorem d_law_931 : decode m_law.2.1 931 = .ok (.invokevirtual 98, 3) := by decide +kernel
theorem d_law_940 : decode m_law.2.1 940 = .ok (.invokevirtual 101, 3) := by decide +kernel
theorem d_law_943 : decode m_law.2.1 943 = .ok (.if_icmp .eq (701), 3) := by decide +kernel
def b_law_934 : List Ins := [(.aload_n 2, 0, 0, 0), (.aload_n 0, 0, 0, 0), (.iload_n 3, 0, 0, 0), (.iconst (1), 0, 0, 0), (.iadd, 0, 0, 0), (.iaload, 0, 0, 0)]
theorem k_law_934 : bok m_law 934 b_law_934 = true := by decide +kernel
set_option maxHeartbeats 1000000 in
theorem lc_19 {w : Wd} {p : Program} {e : Env} {s : State} {mid : MethodId} {b : Nat} {below : List Frame} {meth : Method} {c : Code} {D : Nat} {k : cx} {S : hs} {P : cx → hs → Prop} (C : Cx w m_law p s mid #[Value.ref b] meth c) (hD : D ≤ 2000) {i : Int32} (g1 : inb (i + (1 : Int32)) k.2.1 = true) (hst : Sp2 w D m_X_pairs m_M_pairs [.int (gI S 32 ((i + (1 : Int32))).toNatClampNeg)] k S P) (kk : ∀ k1 S2, k1.2.1 = k.2.1 → P k1 S2 → JL w p e s mid b below meth c 1644 [some (.ref 32), some (.ref 33), some (.ref 191), some (.int i)] [] (mk k1 S2)) : JL w p e s mid b below meth c 925 [some (.ref 32), some (.ref 33), some (.ref 191), some (.int i)] [] (mk k S) := by
  obtain ⟨r, k1, S1, S2, hX, hM, hk, hk1, h32, hP⟩ := hst
  refine run_ok C b_law_925 k_law_925 (And.intro (okA_scr (S := S) g1) (show JL w p e s mid b below meth c 931 [some (.ref 32), some (.ref 33), some (.ref 191), some (.int i)] [.int (gI S 32 ((i + (1 : Int32))).toNatClampNeg), .ref 33] (mk k S) from ?_))
  refine JW.callV (y := m_X_pairs) (av := [.int (gI S 32 ((i + (1 : Int32))).toNatClampNeg)]) (rest := []) (q := 33) C l_law_98 d_law_931 (isC_st rfl rfl) hX rfl (Nat.le_of_ble_eq_true rfl) (D_ok hD (by decide)) ⟨Nat.le_of_ble_eq_true rfl, Nat.le_of_ble_eq_true rfl⟩ (k_le hk1) (show JL w p e s mid b below meth c 934 [some (.ref 32), some (.ref 33), some (.ref 191), some (.int i)] [.int r] (mk k1 S1) from ?_)
  have g1 : inb (i + (1 : Int32)) k1.2.1 = true := by rw [hk]; exact g1
  refine run_ok C b_law_934 k_law_934 (And.intro (okA_scr (S := S1) g1) (show JL w p e s mid b below meth c 940 [some (.ref 32), some (.ref 33), some (.ref 191), some (.int i)] [.int (gI S1 32 ((i + (1 : Int32))).toNatClampNeg), .ref 191, .int r] (mk k1 S1) from ?_))
  have e32 : ∀ j, gI S1 32 j = gI S 32 j := h32
  simp only [e32]
  refine JW.callV (y := m_M_pairs) (av := [.int (gI S 32 ((i + (1 : Int32))).toNatClampNeg)]) (rest := [.int r]) (q := 191) C l_law_101 d_law_940 (isC_st rfl rfl) hM rfl (Nat.le_of_ble_eq_true rfl) (D_ok hD (by decide)) ⟨Nat.le_of_ble_eq_true rfl, Nat.le_of_ble_eq_true rfl⟩ (k_le hk1) (show JL w p e s mid b below meth c 943 [some (.ref 32), some (.ref 33), some (.ref 191), some (.int i)] [.int r, .int r] (mk k1 S2) from ?_)
  exact lwe C (tgt := 1644) d_law_943 rfl (kk k1 S2 hk hP)
def b_law_948 : List Ins := [(.aload_n 1, 0, 0, 0), (.aload_n 0, 0, 0, 0), (.iload_n 3, 0, 0, 0), (.iconst (1), 0, 0, 0), (.iadd, 0, 0, 0), (.iaload, 0, 0, 0)]
theorem k_law_948 : bok m_law 948 b_law_948 = true := by decide +kernel
theorem d_law_954 : decode m_law.2.1 954 = .ok (.invokevirtual 102, 3) := by decide +kernel
theorem d_law_963 : decode m_law.2.1 963 = .ok (.invokevirtual 105, 3) := by decide +kernel
theorem d_law_966 : decode m_law.2.1 966 = .ok (.if_icmp .eq (678), 3) := by decide +kernel
def b_law_957 : List Ins := [(.aload_n 2, 0, 0, 0), (.aload_n 0, 0, 0, 0), (.iload_n 3, 0, 0, 0), (.iconst (1), 0, 0, 0), (.iadd, 0, 0, 0), (.iaload, 0, 0, 0)]
theorem k_law_957 : bok m_law 957 b_law_957 = true := by decide +kernel
set_option maxHeartbeats 1000000 in
theorem lc_20 {w : Wd} {p : Program} {e : Env} {s : State} {mid : MethodId} {b : Nat} {below : List Frame} {meth : Method} {c : Code} {D : Nat} {k : cx} {S : hs} {P : cx → hs → Prop} (C : Cx w m_law p s mid #[Value.ref b] meth c) (hD : D ≤ 2000) {i : Int32} (g1 : inb (i + (1 : Int32)) k.2.1 = true) (hst : Sp2 w D m_X_never m_M_never [.int (gI S 32 ((i + (1 : Int32))).toNatClampNeg)] k S P) (kk : ∀ k1 S2, k1.2.1 = k.2.1 → P k1 S2 → JL w p e s mid b below meth c 1644 [some (.ref 32), some (.ref 33), some (.ref 191), some (.int i)] [] (mk k1 S2)) : JL w p e s mid b below meth c 948 [some (.ref 32), some (.ref 33), some (.ref 191), some (.int i)] [] (mk k S) := by
  obtain ⟨r, k1, S1, S2, hX, hM, hk, hk1, h32, hP⟩ := hst
  refine run_ok C b_law_948 k_law_948 (And.intro (okA_scr (S := S) g1) (show JL w p e s mid b below meth c 954 [some (.ref 32), some (.ref 33), some (.ref 191), some (.int i)] [.int (gI S 32 ((i + (1 : Int32))).toNatClampNeg), .ref 33] (mk k S) from ?_))
  refine JW.callV (y := m_X_never) (av := [.int (gI S 32 ((i + (1 : Int32))).toNatClampNeg)]) (rest := []) (q := 33) C l_law_102 d_law_954 (isC_st rfl rfl) hX rfl (Nat.le_of_ble_eq_true rfl) (D_ok hD (by decide)) ⟨Nat.le_of_ble_eq_true rfl, Nat.le_of_ble_eq_true rfl⟩ (k_le hk1) (show JL w p e s mid b below meth c 957 [some (.ref 32), some (.ref 33), some (.ref 191), some (.int i)] [.int r] (mk k1 S1) from ?_)
  have g1 : inb (i + (1 : Int32)) k1.2.1 = true := by rw [hk]; exact g1
  refine run_ok C b_law_957 k_law_957 (And.intro (okA_scr (S := S1) g1) (show JL w p e s mid b below meth c 963 [some (.ref 32), some (.ref 33), some (.ref 191), some (.int i)] [.int (gI S1 32 ((i + (1 : Int32))).toNatClampNeg), .ref 191, .int r] (mk k1 S1) from ?_))
  have e32 : ∀ j, gI S1 32 j = gI S 32 j := h32
  simp only [e32]
  refine JW.callV (y := m_M_never) (av := [.int (gI S 32 ((i + (1 : Int32))).toNatClampNeg)]) (rest := [.int r]) (q := 191) C l_law_105 d_law_963 (isC_st rfl rfl) hM rfl (Nat.le_of_ble_eq_true rfl) (D_ok hD (by decide)) ⟨Nat.le_of_ble_eq_true rfl, Nat.le_of_ble_eq_true rfl⟩ (k_le hk1) (show JL w p e s mid b below meth c 966 [some (.ref 32), some (.ref 33), some (.ref 191), some (.int i)] [.int r, .int r] (mk k1 S2) from ?_)
  exact lwe C (tgt := 1644) d_law_966 rfl (kk k1 S2 hk hP)
def b_law_971 : List Ins := [(.aload_n 1, 0, 0, 0), (.aload_n 0, 0, 0, 0), (.iload_n 3, 0, 0, 0), (.iconst (1), 0, 0, 0), (.iadd, 0, 0, 0), (.iaload, 0, 0, 0)]
theorem k_law_971 : bok m_law 971 b_law_971 = true := by decide +kernel
theorem d_law_977 : decode m_law.2.1 977 = .ok (.invokevirtual 106, 3) := by decide +kernel
theorem d_law_986 : decode m_law.2.1 986 = .ok (.invokevirtual 109, 3) := by decide +kernel
theorem d_law_989 : decode m_law.2.1 989 = .ok (.if_icmp .eq (655), 3) := by decide +kernel
def b_law_980 : List Ins := [(.aload_n 2, 0, 0, 0), (.aload_n 0, 0, 0, 0), (.iload_n 3, 0, 0, 0), (.iconst (1), 0, 0, 0), (.iadd, 0, 0, 0), (.iaload, 0, 0, 0)]
theorem k_law_980 : bok m_law 980 b_law_980 = true := by decide +kernel
set_option maxHeartbeats 1000000 in
theorem lc_21 {w : Wd} {p : Program} {e : Env} {s : State} {mid : MethodId} {b : Nat} {below : List Frame} {meth : Method} {c : Code} {D : Nat} {k : cx} {S : hs} {P : cx → hs → Prop} (C : Cx w m_law p s mid #[Value.ref b] meth c) (hD : D ≤ 2000) {i : Int32} (g1 : inb (i + (1 : Int32)) k.2.1 = true) (hst : Sp2 w D m_X_parts m_M_parts [.int (gI S 32 ((i + (1 : Int32))).toNatClampNeg)] k S P) (kk : ∀ k1 S2, k1.2.1 = k.2.1 → P k1 S2 → JL w p e s mid b below meth c 1644 [some (.ref 32), some (.ref 33), some (.ref 191), some (.int i)] [] (mk k1 S2)) : JL w p e s mid b below meth c 971 [some (.ref 32), some (.ref 33), some (.ref 191), some (.int i)] [] (mk k S) := by
  obtain ⟨r, k1, S1, S2, hX, hM, hk, hk1, h32, hP⟩ := hst
  refine run_ok C b_law_971 k_law_971 (And.intro (okA_scr (S := S) g1) (show JL w p e s mid b below meth c 977 [some (.ref 32), some (.ref 33), some (.ref 191), some (.int i)] [.int (gI S 32 ((i + (1 : Int32))).toNatClampNeg), .ref 33] (mk k S) from ?_))
  refine JW.callV (y := m_X_parts) (av := [.int (gI S 32 ((i + (1 : Int32))).toNatClampNeg)]) (rest := []) (q := 33) C l_law_106 d_law_977 (isC_st rfl rfl) hX rfl (Nat.le_of_ble_eq_true rfl) (D_ok hD (by decide)) ⟨Nat.le_of_ble_eq_true rfl, Nat.le_of_ble_eq_true rfl⟩ (k_le hk1) (show JL w p e s mid b below meth c 980 [some (.ref 32), some (.ref 33), some (.ref 191), some (.int i)] [.int r] (mk k1 S1) from ?_)
  have g1 : inb (i + (1 : Int32)) k1.2.1 = true := by rw [hk]; exact g1
  refine run_ok C b_law_980 k_law_980 (And.intro (okA_scr (S := S1) g1) (show JL w p e s mid b below meth c 986 [some (.ref 32), some (.ref 33), some (.ref 191), some (.int i)] [.int (gI S1 32 ((i + (1 : Int32))).toNatClampNeg), .ref 191, .int r] (mk k1 S1) from ?_))
  have e32 : ∀ j, gI S1 32 j = gI S 32 j := h32
  simp only [e32]
  refine JW.callV (y := m_M_parts) (av := [.int (gI S 32 ((i + (1 : Int32))).toNatClampNeg)]) (rest := [.int r]) (q := 191) C l_law_109 d_law_986 (isC_st rfl rfl) hM rfl (Nat.le_of_ble_eq_true rfl) (D_ok hD (by decide)) ⟨Nat.le_of_ble_eq_true rfl, Nat.le_of_ble_eq_true rfl⟩ (k_le hk1) (show JL w p e s mid b below meth c 989 [some (.ref 32), some (.ref 33), some (.ref 191), some (.int i)] [.int r, .int r] (mk k1 S2) from ?_)
  exact lwe C (tgt := 1644) d_law_989 rfl (kk k1 S2 hk hP)
def b_law_994 : List Ins := [(.aload_n 1, 0, 0, 0), (.aload_n 0, 0, 0, 0), (.iload_n 3, 0, 0, 0), (.iconst (1), 0, 0, 0), (.iadd, 0, 0, 0), (.iaload, 0, 0, 0), (.aload_n 0, 0, 0, 0), (.iload_n 3, 0, 0, 0), (.iconst (2), 0, 0, 0), (.iadd, 0, 0, 0), (.iaload, 0, 0, 0)]
theorem k_law_994 : bok m_law 994 b_law_994 = true := by decide +kernel
theorem d_law_1005 : decode m_law.2.1 1005 = .ok (.invokevirtual 110, 3) := by decide +kernel
theorem d_law_1019 : decode m_law.2.1 1019 = .ok (.invokevirtual 113, 3) := by decide +kernel
theorem d_law_1022 : decode m_law.2.1 1022 = .ok (.if_icmp .eq (622), 3) := by decide +kernel
def b_law_1008 : List Ins := [(.aload_n 2, 0, 0, 0), (.aload_n 0, 0, 0, 0), (.iload_n 3, 0, 0, 0), (.iconst (1), 0, 0, 0), (.iadd, 0, 0, 0), (.iaload, 0, 0, 0), (.aload_n 0, 0, 0, 0), (.iload_n 3, 0, 0, 0), (.iconst (2), 0, 0, 0), (.iadd, 0, 0, 0), (.iaload, 0, 0, 0)]
theorem k_law_1008 : bok m_law 1008 b_law_1008 = true := by decide +kernel
set_option maxHeartbeats 1000000 in
theorem lc_22 {w : Wd} {p : Program} {e : Env} {s : State} {mid : MethodId} {b : Nat} {below : List Frame} {meth : Method} {c : Code} {D : Nat} {k : cx} {S : hs} {P : cx → hs → Prop} (C : Cx w m_law p s mid #[Value.ref b] meth c) (hD : D ≤ 2000) {i : Int32} (g1 : inb (i + (1 : Int32)) k.2.1 = true) (g2 : inb (i + (2 : Int32)) k.2.1 = true) (hst : Sp2 w D m_X_loop m_M_loop [.int (gI S 32 ((i + (1 : Int32))).toNatClampNeg), .int (gI S 32 ((i + (2 : Int32))).toNatClampNeg)] k S P) (kk : ∀ k1 S2, k1.2.1 = k.2.1 → P k1 S2 → JL w p e s mid b below meth c 1644 [some (.ref 32), some (.ref 33), some (.ref 191), some (.int i)] [] (mk k1 S2)) : JL w p e s mid b below meth c 994 [some (.ref 32), some (.ref 33), some (.ref 191), some (.int i)] [] (mk k S) := by
  obtain ⟨r, k1, S1, S2, hX, hM, hk, hk1, h32, hP⟩ := hst
  refine run_ok C b_law_994 k_law_994 (And.intro (okA_scr (S := S) g1) (And.intro (okA_scr (S := S) g2) (show JL w p e s mid b below meth c 1005 [some (.ref 32), some (.ref 33), some (.ref 191), some (.int i)] [.int (gI S 32 ((i + (2 : Int32))).toNatClampNeg), .int (gI S 32 ((i + (1 : Int32))).toNatClampNeg), .ref 33] (mk k S) from ?_)))
  refine JW.callV (y := m_X_loop) (av := [.int (gI S 32 ((i + (1 : Int32))).toNatClampNeg), .int (gI S 32 ((i + (2 : Int32))).toNatClampNeg)]) (rest := []) (q := 33) C l_law_110 d_law_1005 (isC_st rfl rfl) hX rfl (Nat.le_of_ble_eq_true rfl) (D_ok hD (by decide)) ⟨Nat.le_of_ble_eq_true rfl, Nat.le_of_ble_eq_true rfl⟩ (k_le hk1) (show JL w p e s mid b below meth c 1008 [some (.ref 32), some (.ref 33), some (.ref 191), some (.int i)] [.int r] (mk k1 S1) from ?_)
  have g1 : inb (i + (1 : Int32)) k1.2.1 = true := by rw [hk]; exact g1
  have g2 : inb (i + (2 : Int32)) k1.2.1 = true := by rw [hk]; exact g2
  refine run_ok C b_law_1008 k_law_1008 (And.intro (okA_scr (S := S1) g1) (And.intro (okA_scr (S := S1) g2) (show JL w p e s mid b below meth c 1019 [some (.ref 32), some (.ref 33), some (.ref 191), some (.int i)] [.int (gI S1 32 ((i + (2 : Int32))).toNatClampNeg), .int (gI S1 32 ((i + (1 : Int32))).toNatClampNeg), .ref 191, .int r] (mk k1 S1) from ?_)))
  have e32 : ∀ j, gI S1 32 j = gI S 32 j := h32
  simp only [e32]
  refine JW.callV (y := m_M_loop) (av := [.int (gI S 32 ((i + (1 : Int32))).toNatClampNeg), .int (gI S 32 ((i + (2 : Int32))).toNatClampNeg)]) (rest := [.int r]) (q := 191) C l_law_113 d_law_1019 (isC_st rfl rfl) hM rfl (Nat.le_of_ble_eq_true rfl) (D_ok hD (by decide)) ⟨Nat.le_of_ble_eq_true rfl, Nat.le_of_ble_eq_true rfl⟩ (k_le hk1) (show JL w p e s mid b below meth c 1022 [some (.ref 32), some (.ref 33), some (.ref 191), some (.int i)] [.int r, .int r] (mk k1 S2) from ?_)
  exact lwe C (tgt := 1644) d_law_1022 rfl (kk k1 S2 hk hP)
def b_law_1027 : List Ins := [(.aload_n 1, 0, 0, 0), (.aload_n 0, 0, 0, 0), (.iload_n 3, 0, 0, 0), (.iconst (1), 0, 0, 0), (.iadd, 0, 0, 0), (.iaload, 0, 0, 0)]
theorem k_law_1027 : bok m_law 1027 b_law_1027 = true := by decide +kernel
theorem d_law_1033 : decode m_law.2.1 1033 = .ok (.invokevirtual 114, 3) := by decide +kernel
theorem d_law_1042 : decode m_law.2.1 1042 = .ok (.invokevirtual 117, 3) := by decide +kernel
theorem d_law_1045 : decode m_law.2.1 1045 = .ok (.if_icmp .eq (599), 3) := by decide +kernel
def b_law_1036 : List Ins := [(.aload_n 2, 0, 0, 0), (.aload_n 0, 0, 0, 0), (.iload_n 3, 0, 0, 0), (.iconst (1), 0, 0, 0), (.iadd, 0, 0, 0), (.iaload, 0, 0, 0)]
theorem k_law_1036 : bok m_law 1036 b_law_1036 = true := by decide +kernel
set_option maxHeartbeats 1000000 in
theorem lc_23 {w : Wd} {p : Program} {e : Env} {s : State} {mid : MethodId} {b : Nat} {below : List Frame} {meth : Method} {c : Code} {D : Nat} {k : cx} {S : hs} {P : cx → hs → Prop} (C : Cx w m_law p s mid #[Value.ref b] meth c) (hD : D ≤ 2000) {i : Int32} (g1 : inb (i + (1 : Int32)) k.2.1 = true) (hst : Sp2 w D m_X_worst m_M_worst [.int (gI S 32 ((i + (1 : Int32))).toNatClampNeg)] k S P) (kk : ∀ k1 S2, k1.2.1 = k.2.1 → P k1 S2 → JL w p e s mid b below meth c 1644 [some (.ref 32), some (.ref 33), some (.ref 191), some (.int i)] [] (mk k1 S2)) : JL w p e s mid b below meth c 1027 [some (.ref 32), some (.ref 33), some (.ref 191), some (.int i)] [] (mk k S) := by
  obtain ⟨r, k1, S1, S2, hX, hM, hk, hk1, h32, hP⟩ := hst
  refine run_ok C b_law_1027 k_law_1027 (And.intro (okA_scr (S := S) g1) (show JL w p e s mid b below meth c 1033 [some (.ref 32), some (.ref 33), some (.ref 191), some (.int i)] [.int (gI S 32 ((i + (1 : Int32))).toNatClampNeg), .ref 33] (mk k S) from ?_))
  refine JW.callV (y := m_X_worst) (av := [.int (gI S 32 ((i + (1 : Int32))).toNatClampNeg)]) (rest := []) (q := 33) C l_law_114 d_law_1033 (isC_st rfl rfl) hX rfl (Nat.le_of_ble_eq_true rfl) (D_ok hD (by decide)) ⟨Nat.le_of_ble_eq_true rfl, Nat.le_of_ble_eq_true rfl⟩ (k_le hk1) (show JL w p e s mid b below meth c 1036 [some (.ref 32), some (.ref 33), some (.ref 191), some (.int i)] [.int r] (mk k1 S1) from ?_)
  have g1 : inb (i + (1 : Int32)) k1.2.1 = true := by rw [hk]; exact g1
  refine run_ok C b_law_1036 k_law_1036 (And.intro (okA_scr (S := S1) g1) (show JL w p e s mid b below meth c 1042 [some (.ref 32), some (.ref 33), some (.ref 191), some (.int i)] [.int (gI S1 32 ((i + (1 : Int32))).toNatClampNeg), .ref 191, .int r] (mk k1 S1) from ?_))
  have e32 : ∀ j, gI S1 32 j = gI S 32 j := h32
  simp only [e32]
  refine JW.callV (y := m_M_worst) (av := [.int (gI S 32 ((i + (1 : Int32))).toNatClampNeg)]) (rest := [.int r]) (q := 191) C l_law_117 d_law_1042 (isC_st rfl rfl) hM rfl (Nat.le_of_ble_eq_true rfl) (D_ok hD (by decide)) ⟨Nat.le_of_ble_eq_true rfl, Nat.le_of_ble_eq_true rfl⟩ (k_le hk1) (show JL w p e s mid b below meth c 1045 [some (.ref 32), some (.ref 33), some (.ref 191), some (.int i)] [.int r, .int r] (mk k1 S2) from ?_)
  exact lwe C (tgt := 1644) d_law_1045 rfl (kk k1 S2 hk hP)
def b_law_1050 : List Ins := [(.aload_n 1, 0, 0, 0), (.aload_n 0, 0, 0, 0), (.iload_n 3, 0, 0, 0), (.iconst (1), 0, 0, 0), (.iadd, 0, 0, 0), (.iaload, 0, 0, 0)]
theorem k_law_1050 : bok m_law 1050 b_law_1050 = true := by decide +kernel
theorem d_law_1056 : decode m_law.2.1 1056 = .ok (.invokevirtual 118, 3) := by decide +kernel
theorem d_law_1065 : decode m_law.2.1 1065 = .ok (.invokevirtual 121, 3) := by decide +kernel
theorem d_law_1068 : decode m_law.2.1 1068 = .ok (.if_icmp .eq (576), 3) := by decide +kernel
def b_law_1059 : List Ins := [(.aload_n 2, 0, 0, 0), (.aload_n 0, 0, 0, 0), (.iload_n 3, 0, 0, 0), (.iconst (1), 0, 0, 0), (.iadd, 0, 0, 0), (.iaload, 0, 0, 0)]
theorem k_law_1059 : bok m_law 1059 b_law_1059 = true := by decide +kernel
set_option maxHeartbeats 1000000 in
theorem lc_24 {w : Wd} {p : Program} {e : Env} {s : State} {mid : MethodId} {b : Nat} {below : List Frame} {meth : Method} {c : Code} {D : Nat} {k : cx} {S : hs} {P : cx → hs → Prop} (C : Cx w m_law p s mid #[Value.ref b] meth c) (hD : D ≤ 2000) {i : Int32} (g1 : inb (i + (1 : Int32)) k.2.1 = true) (hst : Sp2 w D m_X_opened m_M_opened [.int (gI S 32 ((i + (1 : Int32))).toNatClampNeg)] k S P) (kk : ∀ k1 S2, k1.2.1 = k.2.1 → P k1 S2 → JL w p e s mid b below meth c 1644 [some (.ref 32), some (.ref 33), some (.ref 191), some (.int i)] [] (mk k1 S2)) : JL w p e s mid b below meth c 1050 [some (.ref 32), some (.ref 33), some (.ref 191), some (.int i)] [] (mk k S) := by
  obtain ⟨r, k1, S1, S2, hX, hM, hk, hk1, h32, hP⟩ := hst
  refine run_ok C b_law_1050 k_law_1050 (And.intro (okA_scr (S := S) g1) (show JL w p e s mid b below meth c 1056 [some (.ref 32), some (.ref 33), some (.ref 191), some (.int i)] [.int (gI S 32 ((i + (1 : Int32))).toNatClampNeg), .ref 33] (mk k S) from ?_))
  refine JW.callV (y := m_X_opened) (av := [.int (gI S 32 ((i + (1 : Int32))).toNatClampNeg)]) (rest := []) (q := 33) C l_law_118 d_law_1056 (isC_st rfl rfl) hX rfl (Nat.le_of_ble_eq_true rfl) (D_ok hD (by decide)) ⟨Nat.le_of_ble_eq_true rfl, Nat.le_of_ble_eq_true rfl⟩ (k_le hk1) (show JL w p e s mid b below meth c 1059 [some (.ref 32), some (.ref 33), some (.ref 191), some (.int i)] [.int r] (mk k1 S1) from ?_)
  have g1 : inb (i + (1 : Int32)) k1.2.1 = true := by rw [hk]; exact g1
  refine run_ok C b_law_1059 k_law_1059 (And.intro (okA_scr (S := S1) g1) (show JL w p e s mid b below meth c 1065 [some (.ref 32), some (.ref 33), some (.ref 191), some (.int i)] [.int (gI S1 32 ((i + (1 : Int32))).toNatClampNeg), .ref 191, .int r] (mk k1 S1) from ?_))
  have e32 : ∀ j, gI S1 32 j = gI S 32 j := h32
  simp only [e32]
  refine JW.callV (y := m_M_opened) (av := [.int (gI S 32 ((i + (1 : Int32))).toNatClampNeg)]) (rest := [.int r]) (q := 191) C l_law_121 d_law_1065 (isC_st rfl rfl) hM rfl (Nat.le_of_ble_eq_true rfl) (D_ok hD (by decide)) ⟨Nat.le_of_ble_eq_true rfl, Nat.le_of_ble_eq_true rfl⟩ (k_le hk1) (show JL w p e s mid b below meth c 1068 [some (.ref 32), some (.ref 33), some (.ref 191), some (.int i)] [.int r, .int r] (mk k1 S2) from ?_)
  exact lwe C (tgt := 1644) d_law_1068 rfl (kk k1 S2 hk hP)
def b_law_1073 : List Ins := [(.aload_n 1, 0, 0, 0), (.aload_n 0, 0, 0, 0), (.iload_n 3, 0, 0, 0), (.iconst (1), 0, 0, 0), (.iadd, 0, 0, 0), (.iaload, 0, 0, 0), (.aload_n 0, 0, 0, 0), (.iload_n 3, 0, 0, 0), (.iconst (2), 0, 0, 0), (.iadd, 0, 0, 0), (.iaload, 0, 0, 0), (.aload_n 0, 0, 0, 0), (.iload_n 3, 0, 0, 0), (.iconst (3), 0, 0, 0), (.iadd, 0, 0, 0), (.iaload, 0, 0, 0)]
theorem k_law_1073 : bok m_law 1073 b_law_1073 = true := by decide +kernel
theorem d_law_1089 : decode m_law.2.1 1089 = .ok (.invokevirtual 122, 3) := by decide +kernel
theorem d_law_1108 : decode m_law.2.1 1108 = .ok (.invokevirtual 125, 3) := by decide +kernel
theorem d_law_1111 : decode m_law.2.1 1111 = .ok (.if_icmp .eq (533), 3) := by decide +kernel
def b_law_1092 : List Ins := [(.aload_n 2, 0, 0, 0), (.aload_n 0, 0, 0, 0), (.iload_n 3, 0, 0, 0), (.iconst (1), 0, 0, 0), (.iadd, 0, 0, 0), (.iaload, 0, 0, 0), (.aload_n 0, 0, 0, 0), (.iload_n 3, 0, 0, 0), (.iconst (2), 0, 0, 0), (.iadd, 0, 0, 0), (.iaload, 0, 0, 0), (.aload_n 0, 0, 0, 0), (.iload_n 3, 0, 0, 0), (.iconst (3), 0, 0, 0), (.iadd, 0, 0, 0), (.iaload, 0, 0, 0)]
theorem k_law_1092 : bok m_law 1092 b_law_1092 = true := by decide +kernel
set_option maxHeartbeats 1000000 in
theorem lc_25 {w : Wd} {p : Program} {e : Env} {s : State} {mid : MethodId} {b : Nat} {below : List Frame} {meth : Method} {c : Code} {D : Nat} {k : cx} {S : hs} {P : cx → hs → Prop} (C : Cx w m_law p s mid #[Value.ref b] meth c) (hD : D ≤ 2000) {i : Int32} (g1 : inb (i + (1 : Int32)) k.2.1 = true) (g2 : inb (i + (2 : Int32)) k.2.1 = true) (g3 : inb (i + (3 : Int32)) k.2.1 = true) (hst : Sp2 w D m_X_meet m_M_meet [.int (gI S 32 ((i + (1 : Int32))).toNatClampNeg), .int (gI S 32 ((i + (2 : Int32))).toNatClampNeg), .int (gI S 32 ((i + (3 : Int32))).toNatClampNeg)] k S P) (kk : ∀ k1 S2, k1.2.1 = k.2.1 → P k1 S2 → JL w p e s mid b below meth c 1644 [some (.ref 32), some (.ref 33), some (.ref 191), some (.int i)] [] (mk k1 S2)) : JL w p e s mid b below meth c 1073 [some (.ref 32), some (.ref 33), some (.ref 191), some (.int i)] [] (mk k S) := by
  obtain ⟨r, k1, S1, S2, hX, hM, hk, hk1, h32, hP⟩ := hst
  refine run_ok C b_law_1073 k_law_1073 (And.intro (okA_scr (S := S) g1) (And.intro (okA_scr (S := S) g2) (And.intro (okA_scr (S := S) g3) (show JL w p e s mid b below meth c 1089 [some (.ref 32), some (.ref 33), some (.ref 191), some (.int i)] [.int (gI S 32 ((i + (3 : Int32))).toNatClampNeg), .int (gI S 32 ((i + (2 : Int32))).toNatClampNeg), .int (gI S 32 ((i + (1 : Int32))).toNatClampNeg), .ref 33] (mk k S) from ?_))))
  refine JW.callV (y := m_X_meet) (av := [.int (gI S 32 ((i + (1 : Int32))).toNatClampNeg), .int (gI S 32 ((i + (2 : Int32))).toNatClampNeg), .int (gI S 32 ((i + (3 : Int32))).toNatClampNeg)]) (rest := []) (q := 33) C l_law_122 d_law_1089 (isC_st rfl rfl) hX rfl (Nat.le_of_ble_eq_true rfl) (D_ok hD (by decide)) ⟨Nat.le_of_ble_eq_true rfl, Nat.le_of_ble_eq_true rfl⟩ (k_le hk1) (show JL w p e s mid b below meth c 1092 [some (.ref 32), some (.ref 33), some (.ref 191), some (.int i)] [.int r] (mk k1 S1) from ?_)
  have g1 : inb (i + (1 : Int32)) k1.2.1 = true := by rw [hk]; exact g1
  have g2 : inb (i + (2 : Int32)) k1.2.1 = true := by rw [hk]; exact g2
  have g3 : inb (i + (3 : Int32)) k1.2.1 = true := by rw [hk]; exact g3
  refine run_ok C b_law_1092 k_law_1092 (And.intro (okA_scr (S := S1) g1) (And.intro (okA_scr (S := S1) g2) (And.intro (okA_scr (S := S1) g3) (show JL w p e s mid b below meth c 1108 [some (.ref 32), some (.ref 33), some (.ref 191), some (.int i)] [.int (gI S1 32 ((i + (3 : Int32))).toNatClampNeg), .int (gI S1 32 ((i + (2 : Int32))).toNatClampNeg), .int (gI S1 32 ((i + (1 : Int32))).toNatClampNeg), .ref 191, .int r] (mk k1 S1) from ?_))))
  have e32 : ∀ j, gI S1 32 j = gI S 32 j := h32
  simp only [e32]
  refine JW.callV (y := m_M_meet) (av := [.int (gI S 32 ((i + (1 : Int32))).toNatClampNeg), .int (gI S 32 ((i + (2 : Int32))).toNatClampNeg), .int (gI S 32 ((i + (3 : Int32))).toNatClampNeg)]) (rest := [.int r]) (q := 191) C l_law_125 d_law_1108 (isC_st rfl rfl) hM rfl (Nat.le_of_ble_eq_true rfl) (D_ok hD (by decide)) ⟨Nat.le_of_ble_eq_true rfl, Nat.le_of_ble_eq_true rfl⟩ (k_le hk1) (show JL w p e s mid b below meth c 1111 [some (.ref 32), some (.ref 33), some (.ref 191), some (.int i)] [.int r, .int r] (mk k1 S2) from ?_)
  exact lwe C (tgt := 1644) d_law_1111 rfl (kk k1 S2 hk hP)
def b_law_1116 : List Ins := [(.aload_n 1, 0, 0, 0), (.aload_n 0, 0, 0, 0), (.iload_n 3, 0, 0, 0), (.iconst (1), 0, 0, 0), (.iadd, 0, 0, 0), (.iaload, 0, 0, 0)]
theorem k_law_1116 : bok m_law 1116 b_law_1116 = true := by decide +kernel
theorem d_law_1122 : decode m_law.2.1 1122 = .ok (.invokevirtual 126, 3) := by decide +kernel
theorem d_law_1131 : decode m_law.2.1 1131 = .ok (.invokevirtual 129, 3) := by decide +kernel
theorem d_law_1134 : decode m_law.2.1 1134 = .ok (.if_icmp .eq (510), 3) := by decide +kernel
def b_law_1125 : List Ins := [(.aload_n 2, 0, 0, 0), (.aload_n 0, 0, 0, 0), (.iload_n 3, 0, 0, 0), (.iconst (1), 0, 0, 0), (.iadd, 0, 0, 0), (.iaload, 0, 0, 0)]
theorem k_law_1125 : bok m_law 1125 b_law_1125 = true := by decide +kernel
set_option maxHeartbeats 1000000 in
theorem lc_26 {w : Wd} {p : Program} {e : Env} {s : State} {mid : MethodId} {b : Nat} {below : List Frame} {meth : Method} {c : Code} {D : Nat} {k : cx} {S : hs} {P : cx → hs → Prop} (C : Cx w m_law p s mid #[Value.ref b] meth c) (hD : D ≤ 2000) {i : Int32} (g1 : inb (i + (1 : Int32)) k.2.1 = true) (hst : Sp2 w D m_X_other m_M_other [.int (gI S 32 ((i + (1 : Int32))).toNatClampNeg)] k S P) (kk : ∀ k1 S2, k1.2.1 = k.2.1 → P k1 S2 → JL w p e s mid b below meth c 1644 [some (.ref 32), some (.ref 33), some (.ref 191), some (.int i)] [] (mk k1 S2)) : JL w p e s mid b below meth c 1116 [some (.ref 32), some (.ref 33), some (.ref 191), some (.int i)] [] (mk k S) := by
  obtain ⟨r, k1, S1, S2, hX, hM, hk, hk1, h32, hP⟩ := hst
  refine run_ok C b_law_1116 k_law_1116 (And.intro (okA_scr (S := S) g1) (show JL w p e s mid b below meth c 1122 [some (.ref 32), some (.ref 33), some (.ref 191), some (.int i)] [.int (gI S 32 ((i + (1 : Int32))).toNatClampNeg), .ref 33] (mk k S) from ?_))
  refine JW.callV (y := m_X_other) (av := [.int (gI S 32 ((i + (1 : Int32))).toNatClampNeg)]) (rest := []) (q := 33) C l_law_126 d_law_1122 (isC_st rfl rfl) hX rfl (Nat.le_of_ble_eq_true rfl) (D_ok hD (by decide)) ⟨Nat.le_of_ble_eq_true rfl, Nat.le_of_ble_eq_true rfl⟩ (k_le hk1) (show JL w p e s mid b below meth c 1125 [some (.ref 32), some (.ref 33), some (.ref 191), some (.int i)] [.int r] (mk k1 S1) from ?_)
  have g1 : inb (i + (1 : Int32)) k1.2.1 = true := by rw [hk]; exact g1
  refine run_ok C b_law_1125 k_law_1125 (And.intro (okA_scr (S := S1) g1) (show JL w p e s mid b below meth c 1131 [some (.ref 32), some (.ref 33), some (.ref 191), some (.int i)] [.int (gI S1 32 ((i + (1 : Int32))).toNatClampNeg), .ref 191, .int r] (mk k1 S1) from ?_))
  have e32 : ∀ j, gI S1 32 j = gI S 32 j := h32
  simp only [e32]
  refine JW.callV (y := m_M_other) (av := [.int (gI S 32 ((i + (1 : Int32))).toNatClampNeg)]) (rest := [.int r]) (q := 191) C l_law_129 d_law_1131 (isC_st rfl rfl) hM rfl (Nat.le_of_ble_eq_true rfl) (D_ok hD (by decide)) ⟨Nat.le_of_ble_eq_true rfl, Nat.le_of_ble_eq_true rfl⟩ (k_le hk1) (show JL w p e s mid b below meth c 1134 [some (.ref 32), some (.ref 33), some (.ref 191), some (.int i)] [.int r, .int r] (mk k1 S2) from ?_)
  exact lwe C (tgt := 1644) d_law_1134 rfl (kk k1 S2 hk hP)
def b_law_1139 : List Ins := [(.aload_n 1, 0, 0, 0), (.aload_n 0, 0, 0, 0), (.iload_n 3, 0, 0, 0), (.iconst (1), 0, 0, 0), (.iadd, 0, 0, 0), (.iaload, 0, 0, 0), (.aload_n 0, 0, 0, 0), (.iload_n 3, 0, 0, 0), (.iconst (2), 0, 0, 0), (.iadd, 0, 0, 0), (.iaload, 0, 0, 0)]
theorem k_law_1139 : bok m_law 1139 b_law_1139 = true := by decide +kernel
theorem d_law_1150 : decode m_law.2.1 1150 = .ok (.invokevirtual 130, 3) := by decide +kernel
theorem d_law_1164 : decode m_law.2.1 1164 = .ok (.invokevirtual 133, 3) := by decide +kernel
theorem d_law_1167 : decode m_law.2.1 1167 = .ok (.if_icmp .eq (477), 3) := by decide +kernel
def b_law_1153 : List Ins := [(.aload_n 2, 0, 0, 0), (.aload_n 0, 0, 0, 0), (.iload_n 3, 0, 0, 0), (.iconst (1), 0, 0, 0), (.iadd, 0, 0, 0), (.iaload, 0, 0, 0), (.aload_n 0, 0, 0, 0), (.iload_n 3, 0, 0, 0), (.iconst (2), 0, 0, 0), (.iadd, 0, 0, 0), (.iaload, 0, 0, 0)]
theorem k_law_1153 : bok m_law 1153 b_law_1153 = true := by decide +kernel
set_option maxHeartbeats 1000000 in
theorem lc_27 {w : Wd} {p : Program} {e : Env} {s : State} {mid : MethodId} {b : Nat} {below : List Frame} {meth : Method} {c : Code} {D : Nat} {k : cx} {S : hs} {P : cx → hs → Prop} (C : Cx w m_law p s mid #[Value.ref b] meth c) (hD : D ≤ 2000) {i : Int32} (g1 : inb (i + (1 : Int32)) k.2.1 = true) (g2 : inb (i + (2 : Int32)) k.2.1 = true) (hst : Sp2 w D m_X_prove m_M_prove [.int (gI S 32 ((i + (1 : Int32))).toNatClampNeg), .int (gI S 32 ((i + (2 : Int32))).toNatClampNeg)] k S P) (kk : ∀ k1 S2, k1.2.1 = k.2.1 → P k1 S2 → JL w p e s mid b below meth c 1644 [some (.ref 32), some (.ref 33), some (.ref 191), some (.int i)] [] (mk k1 S2)) : JL w p e s mid b below meth c 1139 [some (.ref 32), some (.ref 33), some (.ref 191), some (.int i)] [] (mk k S) := by
  obtain ⟨r, k1, S1, S2, hX, hM, hk, hk1, h32, hP⟩ := hst
  refine run_ok C b_law_1139 k_law_1139 (And.intro (okA_scr (S := S) g1) (And.intro (okA_scr (S := S) g2) (show JL w p e s mid b below meth c 1150 [some (.ref 32), some (.ref 33), some (.ref 191), some (.int i)] [.int (gI S 32 ((i + (2 : Int32))).toNatClampNeg), .int (gI S 32 ((i + (1 : Int32))).toNatClampNeg), .ref 33] (mk k S) from ?_)))
  refine JW.callV (y := m_X_prove) (av := [.int (gI S 32 ((i + (1 : Int32))).toNatClampNeg), .int (gI S 32 ((i + (2 : Int32))).toNatClampNeg)]) (rest := []) (q := 33) C l_law_130 d_law_1150 (isC_st rfl rfl) hX rfl (Nat.le_of_ble_eq_true rfl) (D_ok hD (by decide)) ⟨Nat.le_of_ble_eq_true rfl, Nat.le_of_ble_eq_true rfl⟩ (k_le hk1) (show JL w p e s mid b below meth c 1153 [some (.ref 32), some (.ref 33), some (.ref 191), some (.int i)] [.int r] (mk k1 S1) from ?_)
  have g1 : inb (i + (1 : Int32)) k1.2.1 = true := by rw [hk]; exact g1
  have g2 : inb (i + (2 : Int32)) k1.2.1 = true := by rw [hk]; exact g2
  refine run_ok C b_law_1153 k_law_1153 (And.intro (okA_scr (S := S1) g1) (And.intro (okA_scr (S := S1) g2) (show JL w p e s mid b below meth c 1164 [some (.ref 32), some (.ref 33), some (.ref 191), some (.int i)] [.int (gI S1 32 ((i + (2 : Int32))).toNatClampNeg), .int (gI S1 32 ((i + (1 : Int32))).toNatClampNeg), .ref 191, .int r] (mk k1 S1) from ?_)))
  have e32 : ∀ j, gI S1 32 j = gI S 32 j := h32
  simp only [e32]
  refine JW.callV (y := m_M_prove) (av := [.int (gI S 32 ((i + (1 : Int32))).toNatClampNeg), .int (gI S 32 ((i + (2 : Int32))).toNatClampNeg)]) (rest := [.int r]) (q := 191) C l_law_133 d_law_1164 (isC_st rfl rfl) hM rfl (Nat.le_of_ble_eq_true rfl) (D_ok hD (by decide)) ⟨Nat.le_of_ble_eq_true rfl, Nat.le_of_ble_eq_true rfl⟩ (k_le hk1) (show JL w p e s mid b below meth c 1167 [some (.ref 32), some (.ref 33), some (.ref 191), some (.int i)] [.int r, .int r] (mk k1 S2) from ?_)
  exact lwe C (tgt := 1644) d_law_1167 rfl (kk k1 S2 hk hP)
def b_law_1172 : List Ins := [(.aload_n 1, 0, 0, 0), (.aload_n 0, 0, 0, 0), (.iload_n 3, 0, 0, 0), (.iconst (1), 0, 0, 0), (.iadd, 0, 0, 0), (.iaload, 0, 0, 0), (.aload_n 0, 0, 0, 0), (.iload_n 3, 0, 0, 0), (.iconst (2), 0, 0, 0), (.iadd, 0, 0, 0), (.iaload, 0, 0, 0)]
theorem k_law_1172 : bok m_law 1172 b_law_1172 = true := by decide +kernel
theorem d_law_1183 : decode m_law.2.1 1183 = .ok (.invokevirtual 134, 3) := by decide +kernel
theorem d_law_1197 : decode m_law.2.1 1197 = .ok (.invokevirtual 137, 3) := by decide +kernel
theorem d_law_1200 : decode m_law.2.1 1200 = .ok (.if_icmp .eq (444), 3) := by decide +kernel
def b_law_1186 : List Ins := [(.aload_n 2, 0, 0, 0), (.aload_n 0, 0, 0, 0), (.iload_n 3, 0, 0, 0), (.iconst (1), 0, 0, 0), (.iadd, 0, 0, 0), (.iaload, 0, 0, 0), (.aload_n 0, 0, 0, 0), (.iload_n 3, 0, 0, 0), (.iconst (2), 0, 0, 0), (.iadd, 0, 0, 0), (.iaload, 0, 0, 0)]
theorem k_law_1186 : bok m_law 1186 b_law_1186 = true := by decide +kernel
set_option maxHeartbeats 1000000 in
theorem lc_28 {w : Wd} {p : Program} {e : Env} {s : State} {mid : MethodId} {b : Nat} {below : List Frame} {meth : Method} {c : Code} {D : Nat} {k : cx} {S : hs} {P : cx → hs → Prop} (C : Cx w m_law p s mid #[Value.ref b] meth c) (hD : D ≤ 2000) {i : Int32} (g1 : inb (i + (1 : Int32)) k.2.1 = true) (g2 : inb (i + (2 : Int32)) k.2.1 = true) (hst : Sp2 w D m_X_row m_M_row [.int (gI S 32 ((i + (1 : Int32))).toNatClampNeg), .int (gI S 32 ((i + (2 : Int32))).toNatClampNeg)] k S P) (kk : ∀ k1 S2, k1.2.1 = k.2.1 → P k1 S2 → JL w p e s mid b below meth c 1644 [some (.ref 32), some (.ref 33), some (.ref 191), some (.int i)] [] (mk k1 S2)) : JL w p e s mid b below meth c 1172 [some (.ref 32), some (.ref 33), some (.ref 191), some (.int i)] [] (mk k S) := by
  obtain ⟨r, k1, S1, S2, hX, hM, hk, hk1, h32, hP⟩ := hst
  refine run_ok C b_law_1172 k_law_1172 (And.intro (okA_scr (S := S) g1) (And.intro (okA_scr (S := S) g2) (show JL w p e s mid b below meth c 1183 [some (.ref 32), some (.ref 33), some (.ref 191), some (.int i)] [.int (gI S 32 ((i + (2 : Int32))).toNatClampNeg), .int (gI S 32 ((i + (1 : Int32))).toNatClampNeg), .ref 33] (mk k S) from ?_)))
  refine JW.callV (y := m_X_row) (av := [.int (gI S 32 ((i + (1 : Int32))).toNatClampNeg), .int (gI S 32 ((i + (2 : Int32))).toNatClampNeg)]) (rest := []) (q := 33) C l_law_134 d_law_1183 (isC_st rfl rfl) hX rfl (Nat.le_of_ble_eq_true rfl) (D_ok hD (by decide)) ⟨Nat.le_of_ble_eq_true rfl, Nat.le_of_ble_eq_true rfl⟩ (k_le hk1) (show JL w p e s mid b below meth c 1186 [some (.ref 32), some (.ref 33), some (.ref 191), some (.int i)] [.int r] (mk k1 S1) from ?_)
  have g1 : inb (i + (1 : Int32)) k1.2.1 = true := by rw [hk]; exact g1
  have g2 : inb (i + (2 : Int32)) k1.2.1 = true := by rw [hk]; exact g2
  refine run_ok C b_law_1186 k_law_1186 (And.intro (okA_scr (S := S1) g1) (And.intro (okA_scr (S := S1) g2) (show JL w p e s mid b below meth c 1197 [some (.ref 32), some (.ref 33), some (.ref 191), some (.int i)] [.int (gI S1 32 ((i + (2 : Int32))).toNatClampNeg), .int (gI S1 32 ((i + (1 : Int32))).toNatClampNeg), .ref 191, .int r] (mk k1 S1) from ?_)))
  have e32 : ∀ j, gI S1 32 j = gI S 32 j := h32
  simp only [e32]
  refine JW.callV (y := m_M_row) (av := [.int (gI S 32 ((i + (1 : Int32))).toNatClampNeg), .int (gI S 32 ((i + (2 : Int32))).toNatClampNeg)]) (rest := [.int r]) (q := 191) C l_law_137 d_law_1197 (isC_st rfl rfl) hM rfl (Nat.le_of_ble_eq_true rfl) (D_ok hD (by decide)) ⟨Nat.le_of_ble_eq_true rfl, Nat.le_of_ble_eq_true rfl⟩ (k_le hk1) (show JL w p e s mid b below meth c 1200 [some (.ref 32), some (.ref 33), some (.ref 191), some (.int i)] [.int r, .int r] (mk k1 S2) from ?_)
  exact lwe C (tgt := 1644) d_law_1200 rfl (kk k1 S2 hk hP)
def b_law_1205 : List Ins := [(.aload_n 1, 0, 0, 0), (.aload_n 0, 0, 0, 0), (.iload_n 3, 0, 0, 0), (.iconst (1), 0, 0, 0), (.iadd, 0, 0, 0), (.iaload, 0, 0, 0), (.aload_n 0, 0, 0, 0), (.iload_n 3, 0, 0, 0), (.iconst (2), 0, 0, 0), (.iadd, 0, 0, 0), (.iaload, 0, 0, 0), (.aload_n 0, 0, 0, 0), (.iload_n 3, 0, 0, 0), (.iconst (3), 0, 0, 0), (.iadd, 0, 0, 0), (.iaload, 0, 0, 0)]
theorem k_law_1205 : bok m_law 1205 b_law_1205 = true := by decide +kernel
theorem d_law_1221 : decode m_law.2.1 1221 = .ok (.invokevirtual 138, 3) := by decide +kernel
theorem d_law_1240 : decode m_law.2.1 1240 = .ok (.invokevirtual 141, 3) := by decide +kernel
theorem d_law_1243 : decode m_law.2.1 1243 = .ok (.if_icmp .eq (401), 3) := by decide +kernel
def b_law_1224 : List Ins := [(.aload_n 2, 0, 0, 0), (.aload_n 0, 0, 0, 0), (.iload_n 3, 0, 0, 0), (.iconst (1), 0, 0, 0), (.iadd, 0, 0, 0), (.iaload, 0, 0, 0), (.aload_n 0, 0, 0, 0), (.iload_n 3, 0, 0, 0), (.iconst (2), 0, 0, 0), (.iadd, 0, 0, 0), (.iaload, 0, 0, 0), (.aload_n 0, 0, 0, 0), (.iload_n 3, 0, 0, 0), (.iconst (3), 0, 0, 0), (.iadd, 0, 0, 0), (.iaload, 0, 0, 0)]
theorem k_law_1224 : bok m_law 1224 b_law_1224 = true := by decide +kernel
set_option maxHeartbeats 1000000 in
theorem lc_29 {w : Wd} {p : Program} {e : Env} {s : State} {mid : MethodId} {b : Nat} {below : List Frame} {meth : Method} {c : Code} {D : Nat} {k : cx} {S : hs} {P : cx → hs → Prop} (C : Cx w m_law p s mid #[Value.ref b] meth c) (hD : D ≤ 2000) {i : Int32} (g1 : inb (i + (1 : Int32)) k.2.1 = true) (g2 : inb (i + (2 : Int32)) k.2.1 = true) (g3 : inb (i + (3 : Int32)) k.2.1 = true) (hst : Sp2 w D m_X_alterRow m_M_alterRow [.int (gI S 32 ((i + (1 : Int32))).toNatClampNeg), .int (gI S 32 ((i + (2 : Int32))).toNatClampNeg), .int (gI S 32 ((i + (3 : Int32))).toNatClampNeg)] k S P) (kk : ∀ k1 S2, k1.2.1 = k.2.1 → P k1 S2 → JL w p e s mid b below meth c 1644 [some (.ref 32), some (.ref 33), some (.ref 191), some (.int i)] [] (mk k1 S2)) : JL w p e s mid b below meth c 1205 [some (.ref 32), some (.ref 33), some (.ref 191), some (.int i)] [] (mk k S) := by
  obtain ⟨r, k1, S1, S2, hX, hM, hk, hk1, h32, hP⟩ := hst
  refine run_ok C b_law_1205 k_law_1205 (And.intro (okA_scr (S := S) g1) (And.intro (okA_scr (S := S) g2) (And.intro (okA_scr (S := S) g3) (show JL w p e s mid b below meth c 1221 [some (.ref 32), some (.ref 33), some (.ref 191), some (.int i)] [.int (gI S 32 ((i + (3 : Int32))).toNatClampNeg), .int (gI S 32 ((i + (2 : Int32))).toNatClampNeg), .int (gI S 32 ((i + (1 : Int32))).toNatClampNeg), .ref 33] (mk k S) from ?_))))
  refine JW.callV (y := m_X_alterRow) (av := [.int (gI S 32 ((i + (1 : Int32))).toNatClampNeg), .int (gI S 32 ((i + (2 : Int32))).toNatClampNeg), .int (gI S 32 ((i + (3 : Int32))).toNatClampNeg)]) (rest := []) (q := 33) C l_law_138 d_law_1221 (isC_st rfl rfl) hX rfl (Nat.le_of_ble_eq_true rfl) (D_ok hD (by decide)) ⟨Nat.le_of_ble_eq_true rfl, Nat.le_of_ble_eq_true rfl⟩ (k_le hk1) (show JL w p e s mid b below meth c 1224 [some (.ref 32), some (.ref 33), some (.ref 191), some (.int i)] [.int r] (mk k1 S1) from ?_)
  have g1 : inb (i + (1 : Int32)) k1.2.1 = true := by rw [hk]; exact g1
  have g2 : inb (i + (2 : Int32)) k1.2.1 = true := by rw [hk]; exact g2
  have g3 : inb (i + (3 : Int32)) k1.2.1 = true := by rw [hk]; exact g3
  refine run_ok C b_law_1224 k_law_1224 (And.intro (okA_scr (S := S1) g1) (And.intro (okA_scr (S := S1) g2) (And.intro (okA_scr (S := S1) g3) (show JL w p e s mid b below meth c 1240 [some (.ref 32), some (.ref 33), some (.ref 191), some (.int i)] [.int (gI S1 32 ((i + (3 : Int32))).toNatClampNeg), .int (gI S1 32 ((i + (2 : Int32))).toNatClampNeg), .int (gI S1 32 ((i + (1 : Int32))).toNatClampNeg), .ref 191, .int r] (mk k1 S1) from ?_))))
  have e32 : ∀ j, gI S1 32 j = gI S 32 j := h32
  simp only [e32]
  refine JW.callV (y := m_M_alterRow) (av := [.int (gI S 32 ((i + (1 : Int32))).toNatClampNeg), .int (gI S 32 ((i + (2 : Int32))).toNatClampNeg), .int (gI S 32 ((i + (3 : Int32))).toNatClampNeg)]) (rest := [.int r]) (q := 191) C l_law_141 d_law_1240 (isC_st rfl rfl) hM rfl (Nat.le_of_ble_eq_true rfl) (D_ok hD (by decide)) ⟨Nat.le_of_ble_eq_true rfl, Nat.le_of_ble_eq_true rfl⟩ (k_le hk1) (show JL w p e s mid b below meth c 1243 [some (.ref 32), some (.ref 33), some (.ref 191), some (.int i)] [.int r, .int r] (mk k1 S2) from ?_)
  exact lwe C (tgt := 1644) d_law_1243 rfl (kk k1 S2 hk hP)
def b_law_1248 : List Ins := [(.aload_n 1, 0, 0, 0), (.aload_n 0, 0, 0, 0), (.iload_n 3, 0, 0, 0), (.iconst (1), 0, 0, 0), (.iadd, 0, 0, 0), (.iaload, 0, 0, 0)]
theorem k_law_1248 : bok m_law 1248 b_law_1248 = true := by decide +kernel
theorem d_law_1254 : decode m_law.2.1 1254 = .ok (.invokevirtual 142, 3) := by decide +kernel
theorem d_law_1263 : decode m_law.2.1 1263 = .ok (.invokevirtual 145, 3) := by decide +kernel
theorem d_law_1266 : decode m_law.2.1 1266 = .ok (.if_icmp .eq (378), 3) := by decide +kernel
def b_law_1257 : List Ins := [(.aload_n 2, 0, 0, 0), (.aload_n 0, 0, 0, 0), (.iload_n 3, 0, 0, 0), (.iconst (1), 0, 0, 0), (.iadd, 0, 0, 0), (.iaload, 0, 0, 0)]
theorem k_law_1257 : bok m_law 1257 b_law_1257 = true := by decide +kernel
set_option maxHeartbeats 1000000 in
theorem lc_30 {w : Wd} {p : Program} {e : Env} {s : State} {mid : MethodId} {b : Nat} {below : List Frame} {meth : Method} {c : Code} {D : Nat} {k : cx} {S : hs} {P : cx → hs → Prop} (C : Cx w m_law p s mid #[Value.ref b] meth c) (hD : D ≤ 2000) {i : Int32} (g1 : inb (i + (1 : Int32)) k.2.1 = true) (hst : Sp2 w D m_X_judge m_M_judge [.int (gI S 32 ((i + (1 : Int32))).toNatClampNeg)] k S P) (kk : ∀ k1 S2, k1.2.1 = k.2.1 → P k1 S2 → JL w p e s mid b below meth c 1644 [some (.ref 32), some (.ref 33), some (.ref 191), some (.int i)] [] (mk k1 S2)) : JL w p e s mid b below meth c 1248 [some (.ref 32), some (.ref 33), some (.ref 191), some (.int i)] [] (mk k S) := by
  obtain ⟨r, k1, S1, S2, hX, hM, hk, hk1, h32, hP⟩ := hst
  refine run_ok C b_law_1248 k_law_1248 (And.intro (okA_scr (S := S) g1) (show JL w p e s mid b below meth c 1254 [some (.ref 32), some (.ref 33), some (.ref 191), some (.int i)] [.int (gI S 32 ((i + (1 : Int32))).toNatClampNeg), .ref 33] (mk k S) from ?_))
  refine JW.callV (y := m_X_judge) (av := [.int (gI S 32 ((i + (1 : Int32))).toNatClampNeg)]) (rest := []) (q := 33) C l_law_142 d_law_1254 (isC_st rfl rfl) hX rfl (Nat.le_of_ble_eq_true rfl) (D_ok hD (by decide)) ⟨Nat.le_of_ble_eq_true rfl, Nat.le_of_ble_eq_true rfl⟩ (k_le hk1) (show JL w p e s mid b below meth c 1257 [some (.ref 32), some (.ref 33), some (.ref 191), some (.int i)] [.int r] (mk k1 S1) from ?_)
  have g1 : inb (i + (1 : Int32)) k1.2.1 = true := by rw [hk]; exact g1
  refine run_ok C b_law_1257 k_law_1257 (And.intro (okA_scr (S := S1) g1) (show JL w p e s mid b below meth c 1263 [some (.ref 32), some (.ref 33), some (.ref 191), some (.int i)] [.int (gI S1 32 ((i + (1 : Int32))).toNatClampNeg), .ref 191, .int r] (mk k1 S1) from ?_))
  have e32 : ∀ j, gI S1 32 j = gI S 32 j := h32
  simp only [e32]
  refine JW.callV (y := m_M_judge) (av := [.int (gI S 32 ((i + (1 : Int32))).toNatClampNeg)]) (rest := [.int r]) (q := 191) C l_law_145 d_law_1263 (isC_st rfl rfl) hM rfl (Nat.le_of_ble_eq_true rfl) (D_ok hD (by decide)) ⟨Nat.le_of_ble_eq_true rfl, Nat.le_of_ble_eq_true rfl⟩ (k_le hk1) (show JL w p e s mid b below meth c 1266 [some (.ref 32), some (.ref 33), some (.ref 191), some (.int i)] [.int r, .int r] (mk k1 S2) from ?_)
  exact lwe C (tgt := 1644) d_law_1266 rfl (kk k1 S2 hk hP)
def b_law_1271 : List Ins := [(.aload_n 1, 0, 0, 0), (.aload_n 0, 0, 0, 0), (.iload_n 3, 0, 0, 0), (.iconst (1), 0, 0, 0), (.iadd, 0, 0, 0), (.iaload, 0, 0, 0), (.aload_n 0, 0, 0, 0), (.iload_n 3, 0, 0, 0), (.iconst (2), 0, 0, 0), (.iadd, 0, 0, 0), (.iaload, 0, 0, 0), (.aload_n 0, 0, 0, 0), (.iload_n 3, 0, 0, 0), (.iconst (3), 0, 0, 0), (.iadd, 0, 0, 0), (.iaload, 0, 0, 0)]
theorem k_law_1271 : bok m_law 1271 b_law_1271 = true := by decide +kernel
theorem d_law_1287 : decode m_law.2.1 1287 = .ok (.invokevirtual 146, 3) := by decide +kernel
theorem d_law_1306 : decode m_law.2.1 1306 = .ok (.invokevirtual 149, 3) := by decide +kernel
theorem d_law_1309 : decode m_law.2.1 1309 = .ok (.if_icmp .eq (335), 3) := by decide +kernel
def b_law_1290 : List Ins := [(.aload_n 2, 0, 0, 0), (.aload_n 0, 0, 0, 0), (.iload_n 3, 0, 0, 0), (.iconst (1), 0, 0, 0), (.iadd, 0, 0, 0), (.iaload, 0, 0, 0), (.aload_n 0, 0, 0, 0), (.iload_n 3, 0, 0, 0), (.iconst (2), 0, 0, 0), (.iadd, 0, 0, 0), (.iaload, 0, 0, 0), (.aload_n 0, 0, 0, 0), (.iload_n 3, 0, 0, 0), (.iconst (3), 0, 0, 0), (.iadd, 0, 0, 0), (.iaload, 0, 0, 0)]
theorem k_law_1290 : bok m_law 1290 b_law_1290 = true := by decide +kernel
set_option maxHeartbeats 1000000 in
theorem lc_31 {w : Wd} {p : Program} {e : Env} {s : State} {mid : MethodId} {b : Nat} {below : List Frame} {meth : Method} {c : Code} {D : Nat} {k : cx} {S : hs} {P : cx → hs → Prop} (C : Cx w m_law p s mid #[Value.ref b] meth c) (hD : D ≤ 2000) {i : Int32} (g1 : inb (i + (1 : Int32)) k.2.1 = true) (g2 : inb (i + (2 : Int32)) k.2.1 = true) (g3 : inb (i + (3 : Int32)) k.2.1 = true) (hst : Sp2 w D m_X_sheet m_M_sheet [.int (gI S 32 ((i + (1 : Int32))).toNatClampNeg), .int (gI S 32 ((i + (2 : Int32))).toNatClampNeg), .int (gI S 32 ((i + (3 : Int32))).toNatClampNeg)] k S P) (kk : ∀ k1 S2, k1.2.1 = k.2.1 → P k1 S2 → JL w p e s mid b below meth c 1644 [some (.ref 32), some (.ref 33), some (.ref 191), some (.int i)] [] (mk k1 S2)) : JL w p e s mid b below meth c 1271 [some (.ref 32), some (.ref 33), some (.ref 191), some (.int i)] [] (mk k S) := by
  obtain ⟨r, k1, S1, S2, hX, hM, hk, hk1, h32, hP⟩ := hst
  refine run_ok C b_law_1271 k_law_1271 (And.intro (okA_scr (S := S) g1) (And.intro (okA_scr (S := S) g2) (And.intro (okA_scr (S := S) g3) (show JL w p e s mid b below meth c 1287 [some (.ref 32), some (.ref 33), some (.ref 191), some (.int i)] [.int (gI S 32 ((i + (3 : Int32))).toNatClampNeg), .int (gI S 32 ((i + (2 : Int32))).toNatClampNeg), .int (gI S 32 ((i + (1 : Int32))).toNatClampNeg), .ref 33] (mk k S) from ?_))))
  refine JW.callV (y := m_X_sheet) (av := [.int (gI S 32 ((i + (1 : Int32))).toNatClampNeg), .int (gI S 32 ((i + (2 : Int32))).toNatClampNeg), .int (gI S 32 ((i + (3 : Int32))).toNatClampNeg)]) (rest := []) (q := 33) C l_law_146 d_law_1287 (isC_st rfl rfl) hX rfl (Nat.le_of_ble_eq_true rfl) (D_ok hD (by decide)) ⟨Nat.le_of_ble_eq_true rfl, Nat.le_of_ble_eq_true rfl⟩ (k_le hk1) (show JL w p e s mid b below meth c 1290 [some (.ref 32), some (.ref 33), some (.ref 191), some (.int i)] [.int r] (mk k1 S1) from ?_)
  have g1 : inb (i + (1 : Int32)) k1.2.1 = true := by rw [hk]; exact g1
  have g2 : inb (i + (2 : Int32)) k1.2.1 = true := by rw [hk]; exact g2
  have g3 : inb (i + (3 : Int32)) k1.2.1 = true := by rw [hk]; exact g3
  refine run_ok C b_law_1290 k_law_1290 (And.intro (okA_scr (S := S1) g1) (And.intro (okA_scr (S := S1) g2) (And.intro (okA_scr (S := S1) g3) (show JL w p e s mid b below meth c 1306 [some (.ref 32), some (.ref 33), some (.ref 191), some (.int i)] [.int (gI S1 32 ((i + (3 : Int32))).toNatClampNeg), .int (gI S1 32 ((i + (2 : Int32))).toNatClampNeg), .int (gI S1 32 ((i + (1 : Int32))).toNatClampNeg), .ref 191, .int r] (mk k1 S1) from ?_))))
  have e32 : ∀ j, gI S1 32 j = gI S 32 j := h32
  simp only [e32]
  refine JW.callV (y := m_M_sheet) (av := [.int (gI S 32 ((i + (1 : Int32))).toNatClampNeg), .int (gI S 32 ((i + (2 : Int32))).toNatClampNeg), .int (gI S 32 ((i + (3 : Int32))).toNatClampNeg)]) (rest := [.int r]) (q := 191) C l_law_149 d_law_1306 (isC_st rfl rfl) hM rfl (Nat.le_of_ble_eq_true rfl) (D_ok hD (by decide)) ⟨Nat.le_of_ble_eq_true rfl, Nat.le_of_ble_eq_true rfl⟩ (k_le hk1) (show JL w p e s mid b below meth c 1309 [some (.ref 32), some (.ref 33), some (.ref 191), some (.int i)] [.int r, .int r] (mk k1 S2) from ?_)
  exact lwe C (tgt := 1644) d_law_1309 rfl (kk k1 S2 hk hP)
def b_law_1314 : List Ins := [(.aload_n 1, 0, 0, 0), (.aload_n 0, 0, 0, 0), (.iload_n 3, 0, 0, 0), (.iconst (1), 0, 0, 0), (.iadd, 0, 0, 0), (.iaload, 0, 0, 0), (.aload_n 0, 0, 0, 0), (.iload_n 3, 0, 0, 0), (.iconst (2), 0, 0, 0), (.iadd, 0, 0, 0), (.iaload, 0, 0, 0), (.aload_n 0, 0, 0, 0), (.iload_n 3, 0, 0, 0), (.iconst (3), 0, 0, 0), (.iadd, 0, 0, 0), (.iaload, 0, 0, 0)]
theorem k_law_1314 : bok m_law 1314 b_law_1314 = true := by decide +kernel
theorem d_law_1330 : decode m_law.2.1 1330 = .ok (.invokevirtual 150, 3) := by decide +kernel
theorem d_law_1349 : decode m_law.2.1 1349 = .ok (.invokevirtual 153, 3) := by decide +kernel
theorem d_law_1352 : decode m_law.2.1 1352 = .ok (.if_icmp .eq (292), 3) := by decide +kernel
def b_law_1333 : List Ins := [(.aload_n 2, 0, 0, 0), (.aload_n 0, 0, 0, 0), (.iload_n 3, 0, 0, 0), (.iconst (1), 0, 0, 0), (.iadd, 0, 0, 0), (.iaload, 0, 0, 0), (.aload_n 0, 0, 0, 0), (.iload_n 3, 0, 0, 0), (.iconst (2), 0, 0, 0), (.iadd, 0, 0, 0), (.iaload, 0, 0, 0), (.aload_n 0, 0, 0, 0), (.iload_n 3, 0, 0, 0), (.iconst (3), 0, 0, 0), (.iadd, 0, 0, 0), (.iaload, 0, 0, 0)]
theorem k_law_1333 : bok m_law 1333 b_law_1333 = true := by decide +kernel
set_option maxHeartbeats 1000000 in
theorem lc_32 {w : Wd} {p : Program} {e : Env} {s : State} {mid : MethodId} {b : Nat} {below : List Frame} {meth : Method} {c : Code} {D : Nat} {k : cx} {S : hs} {P : cx → hs → Prop} (C : Cx w m_law p s mid #[Value.ref b] meth c) (hD : D ≤ 2000) {i : Int32} (g1 : inb (i + (1 : Int32)) k.2.1 = true) (g2 : inb (i + (2 : Int32)) k.2.1 = true) (g3 : inb (i + (3 : Int32)) k.2.1 = true) (hst : Sp2 w D m_X_write m_M_write [.int (gI S 32 ((i + (1 : Int32))).toNatClampNeg), .int (gI S 32 ((i + (2 : Int32))).toNatClampNeg), .int (gI S 32 ((i + (3 : Int32))).toNatClampNeg)] k S P) (kk : ∀ k1 S2, k1.2.1 = k.2.1 → P k1 S2 → JL w p e s mid b below meth c 1644 [some (.ref 32), some (.ref 33), some (.ref 191), some (.int i)] [] (mk k1 S2)) : JL w p e s mid b below meth c 1314 [some (.ref 32), some (.ref 33), some (.ref 191), some (.int i)] [] (mk k S) := by
  obtain ⟨r, k1, S1, S2, hX, hM, hk, hk1, h32, hP⟩ := hst
  refine run_ok C b_law_1314 k_law_1314 (And.intro (okA_scr (S := S) g1) (And.intro (okA_scr (S := S) g2) (And.intro (okA_scr (S := S) g3) (show JL w p e s mid b below meth c 1330 [some (.ref 32), some (.ref 33), some (.ref 191), some (.int i)] [.int (gI S 32 ((i + (3 : Int32))).toNatClampNeg), .int (gI S 32 ((i + (2 : Int32))).toNatClampNeg), .int (gI S 32 ((i + (1 : Int32))).toNatClampNeg), .ref 33] (mk k S) from ?_))))
  refine JW.callV (y := m_X_write) (av := [.int (gI S 32 ((i + (1 : Int32))).toNatClampNeg), .int (gI S 32 ((i + (2 : Int32))).toNatClampNeg), .int (gI S 32 ((i + (3 : Int32))).toNatClampNeg)]) (rest := []) (q := 33) C l_law_150 d_law_1330 (isC_st rfl rfl) hX rfl (Nat.le_of_ble_eq_true rfl) (D_ok hD (by decide)) ⟨Nat.le_of_ble_eq_true rfl, Nat.le_of_ble_eq_true rfl⟩ (k_le hk1) (show JL w p e s mid b below meth c 1333 [some (.ref 32), some (.ref 33), some (.ref 191), some (.int i)] [.int r] (mk k1 S1) from ?_)
  have g1 : inb (i + (1 : Int32)) k1.2.1 = true := by rw [hk]; exact g1
  have g2 : inb (i + (2 : Int32)) k1.2.1 = true := by rw [hk]; exact g2
  have g3 : inb (i + (3 : Int32)) k1.2.1 = true := by rw [hk]; exact g3
  refine run_ok C b_law_1333 k_law_1333 (And.intro (okA_scr (S := S1) g1) (And.intro (okA_scr (S := S1) g2) (And.intro (okA_scr (S := S1) g3) (show JL w p e s mid b below meth c 1349 [some (.ref 32), some (.ref 33), some (.ref 191), some (.int i)] [.int (gI S1 32 ((i + (3 : Int32))).toNatClampNeg), .int (gI S1 32 ((i + (2 : Int32))).toNatClampNeg), .int (gI S1 32 ((i + (1 : Int32))).toNatClampNeg), .ref 191, .int r] (mk k1 S1) from ?_))))
  have e32 : ∀ j, gI S1 32 j = gI S 32 j := h32
  simp only [e32]
  refine JW.callV (y := m_M_write) (av := [.int (gI S 32 ((i + (1 : Int32))).toNatClampNeg), .int (gI S 32 ((i + (2 : Int32))).toNatClampNeg), .int (gI S 32 ((i + (3 : Int32))).toNatClampNeg)]) (rest := [.int r]) (q := 191) C l_law_153 d_law_1349 (isC_st rfl rfl) hM rfl (Nat.le_of_ble_eq_true rfl) (D_ok hD (by decide)) ⟨Nat.le_of_ble_eq_true rfl, Nat.le_of_ble_eq_true rfl⟩ (k_le hk1) (show JL w p e s mid b below meth c 1352 [some (.ref 32), some (.ref 33), some (.ref 191), some (.int i)] [.int r, .int r] (mk k1 S2) from ?_)
  exact lwe C (tgt := 1644) d_law_1352 rfl (kk k1 S2 hk hP)
def b_law_1357 : List Ins := [(.aload_n 1, 0, 0, 0), (.aload_n 0, 0, 0, 0), (.iload_n 3, 0, 0, 0), (.iconst (1), 0, 0, 0), (.iadd, 0, 0, 0), (.iaload, 0, 0, 0), (.aload_n 0, 0, 0, 0), (.iload_n 3, 0, 0, 0), (.iconst (2), 0, 0, 0), (.iadd, 0, 0, 0), (.iaload, 0, 0, 0), (.aload_n 0, 0, 0, 0), (.iload_n 3, 0, 0, 0), (.iconst (3), 0, 0, 0), (.iadd, 0, 0, 0), (.iaload, 0, 0, 0)]
theorem k_law_1357 : bok m_law 1357 b_law_1357 = true := by decide +kernel
theorem d_law_1373 : decode m_law.2.1 1373 = .ok (.invokevirtual 154, 3) := by decide +kernel
theorem d_law_1392 : decode m_law.2.1 1392 = .ok (.invokevirtual 157, 3) := by decide +kernel
theorem d_law_1395 : decode m_law.2.1 1395 = .ok (.if_icmp .eq (249), 3) := by decide +kernel
def b_law_1376 : List Ins := [(.aload_n 2, 0, 0, 0), (.aload_n 0, 0, 0, 0), (.iload_n 3, 0, 0, 0), (.iconst (1), 0, 0, 0), (.iadd, 0, 0, 0), (.iaload, 0, 0, 0), (.aload_n 0, 0, 0, 0), (.iload_n 3, 0, 0, 0), (.iconst (2), 0, 0, 0), (.iadd, 0, 0, 0), (.iaload, 0, 0, 0), (.aload_n 0, 0, 0, 0), (.iload_n 3, 0, 0, 0), (.iconst (3), 0, 0, 0), (.iadd, 0, 0, 0), (.iaload, 0, 0, 0)]
theorem k_law_1376 : bok m_law 1376 b_law_1376 = true := by decide +kernel
set_option maxHeartbeats 1000000 in
theorem lc_33 {w : Wd} {p : Program} {e : Env} {s : State} {mid : MethodId} {b : Nat} {below : List Frame} {meth : Method} {c : Code} {D : Nat} {k : cx} {S : hs} {P : cx → hs → Prop} (C : Cx w m_law p s mid #[Value.ref b] meth c) (hD : D ≤ 2000) {i : Int32} (g1 : inb (i + (1 : Int32)) k.2.1 = true) (g2 : inb (i + (2 : Int32)) k.2.1 = true) (g3 : inb (i + (3 : Int32)) k.2.1 = true) (hst : Sp2 w D m_X_item m_M_item [.int (gI S 32 ((i + (1 : Int32))).toNatClampNeg), .int (gI S 32 ((i + (2 : Int32))).toNatClampNeg), .int (gI S 32 ((i + (3 : Int32))).toNatClampNeg)] k S P) (kk : ∀ k1 S2, k1.2.1 = k.2.1 → P k1 S2 → JL w p e s mid b below meth c 1644 [some (.ref 32), some (.ref 33), some (.ref 191), some (.int i)] [] (mk k1 S2)) : JL w p e s mid b below meth c 1357 [some (.ref 32), some (.ref 33), some (.ref 191), some (.int i)] [] (mk k S) := by
  obtain ⟨r, k1, S1, S2, hX, hM, hk, hk1, h32, hP⟩ := hst
  refine run_ok C b_law_1357 k_law_1357 (And.intro (okA_scr (S := S) g1) (And.intro (okA_scr (S := S) g2) (And.intro (okA_scr (S := S) g3) (show JL w p e s mid b below meth c 1373 [some (.ref 32), some (.ref 33), some (.ref 191), some (.int i)] [.int (gI S 32 ((i + (3 : Int32))).toNatClampNeg), .int (gI S 32 ((i + (2 : Int32))).toNatClampNeg), .int (gI S 32 ((i + (1 : Int32))).toNatClampNeg), .ref 33] (mk k S) from ?_))))
  refine JW.callV (y := m_X_item) (av := [.int (gI S 32 ((i + (1 : Int32))).toNatClampNeg), .int (gI S 32 ((i + (2 : Int32))).toNatClampNeg), .int (gI S 32 ((i + (3 : Int32))).toNatClampNeg)]) (rest := []) (q := 33) C l_law_154 d_law_1373 (isC_st rfl rfl) hX rfl (Nat.le_of_ble_eq_true rfl) (D_ok hD (by decide)) ⟨Nat.le_of_ble_eq_true rfl, Nat.le_of_ble_eq_true rfl⟩ (k_le hk1) (show JL w p e s mid b below meth c 1376 [some (.ref 32), some (.ref 33), some (.ref 191), some (.int i)] [.int r] (mk k1 S1) from ?_)
  have g1 : inb (i + (1 : Int32)) k1.2.1 = true := by rw [hk]; exact g1
  have g2 : inb (i + (2 : Int32)) k1.2.1 = true := by rw [hk]; exact g2
  have g3 : inb (i + (3 : Int32)) k1.2.1 = true := by rw [hk]; exact g3
  refine run_ok C b_law_1376 k_law_1376 (And.intro (okA_scr (S := S1) g1) (And.intro (okA_scr (S := S1) g2) (And.intro (okA_scr (S := S1) g3) (show JL w p e s mid b below meth c 1392 [some (.ref 32), some (.ref 33), some (.ref 191), some (.int i)] [.int (gI S1 32 ((i + (3 : Int32))).toNatClampNeg), .int (gI S1 32 ((i + (2 : Int32))).toNatClampNeg), .int (gI S1 32 ((i + (1 : Int32))).toNatClampNeg), .ref 191, .int r] (mk k1 S1) from ?_))))
  have e32 : ∀ j, gI S1 32 j = gI S 32 j := h32
  simp only [e32]
  refine JW.callV (y := m_M_item) (av := [.int (gI S 32 ((i + (1 : Int32))).toNatClampNeg), .int (gI S 32 ((i + (2 : Int32))).toNatClampNeg), .int (gI S 32 ((i + (3 : Int32))).toNatClampNeg)]) (rest := [.int r]) (q := 191) C l_law_157 d_law_1392 (isC_st rfl rfl) hM rfl (Nat.le_of_ble_eq_true rfl) (D_ok hD (by decide)) ⟨Nat.le_of_ble_eq_true rfl, Nat.le_of_ble_eq_true rfl⟩ (k_le hk1) (show JL w p e s mid b below meth c 1395 [some (.ref 32), some (.ref 33), some (.ref 191), some (.int i)] [.int r, .int r] (mk k1 S2) from ?_)
  exact lwe C (tgt := 1644) d_law_1395 rfl (kk k1 S2 hk hP)
def b_law_1400 : List Ins := [(.aload_n 1, 0, 0, 0), (.aload_n 0, 0, 0, 0), (.iload_n 3, 0, 0, 0), (.iconst (1), 0, 0, 0), (.iadd, 0, 0, 0), (.iaload, 0, 0, 0), (.aload_n 0, 0, 0, 0), (.iload_n 3, 0, 0, 0), (.iconst (2), 0, 0, 0), (.iadd, 0, 0, 0), (.iaload, 0, 0, 0), (.aload_n 0, 0, 0, 0), (.iload_n 3, 0, 0, 0), (.iconst (3), 0, 0, 0), (.iadd, 0, 0, 0), (.iaload, 0, 0, 0)]
theorem k_law_1400 : bok m_law 1400 b_law_1400 = true := by decide +kernel
theorem d_law_1416 : decode m_law.2.1 1416 = .ok (.invokevirtual 158, 3) := by decide +kernel
theorem d_law_1435 : decode m_law.2.1 1435 = .ok (.invokevirtual 161, 3) := by decide +kernel
theorem d_law_1438 : decode m_law.2.1 1438 = .ok (.if_icmp .eq (206), 3) := by decide +kernel
def b_law_1419 : List Ins := [(.aload_n 2, 0, 0, 0), (.aload_n 0, 0, 0, 0), (.iload_n 3, 0, 0, 0), (.iconst (1), 0, 0, 0), (.iadd, 0, 0, 0), (.iaload, 0, 0, 0), (.aload_n 0, 0, 0, 0), (.iload_n 3, 0, 0, 0), (.iconst (2), 0, 0, 0), (.iadd, 0, 0, 0), (.iaload, 0, 0, 0), (.aload_n 0, 0, 0, 0), (.iload_n 3, 0, 0, 0), (.iconst (3), 0, 0, 0), (.iadd, 0, 0, 0), (.iaload, 0, 0, 0)]
theorem k_law_1419 : bok m_law 1419 b_law_1419 = true := by decide +kernel
set_option maxHeartbeats 1000000 in
theorem lc_34 {w : Wd} {p : Program} {e : Env} {s : State} {mid : MethodId} {b : Nat} {below : List Frame} {meth : Method} {c : Code} {D : Nat} {k : cx} {S : hs} {P : cx → hs → Prop} (C : Cx w m_law p s mid #[Value.ref b] meth c) (hD : D ≤ 2000) {i : Int32} (g1 : inb (i + (1 : Int32)) k.2.1 = true) (g2 : inb (i + (2 : Int32)) k.2.1 = true) (g3 : inb (i + (3 : Int32)) k.2.1 = true) (hst : Sp2 w D m_X_wides m_M_wides [.int (gI S 32 ((i + (1 : Int32))).toNatClampNeg), .int (gI S 32 ((i + (2 : Int32))).toNatClampNeg), .int (gI S 32 ((i + (3 : Int32))).toNatClampNeg)] k S P) (kk : ∀ k1 S2, k1.2.1 = k.2.1 → P k1 S2 → JL w p e s mid b below meth c 1644 [some (.ref 32), some (.ref 33), some (.ref 191), some (.int i)] [] (mk k1 S2)) : JL w p e s mid b below meth c 1400 [some (.ref 32), some (.ref 33), some (.ref 191), some (.int i)] [] (mk k S) := by
  obtain ⟨r, k1, S1, S2, hX, hM, hk, hk1, h32, hP⟩ := hst
  refine run_ok C b_law_1400 k_law_1400 (And.intro (okA_scr (S := S) g1) (And.intro (okA_scr (S := S) g2) (And.intro (okA_scr (S := S) g3) (show JL w p e s mid b below meth c 1416 [some (.ref 32), some (.ref 33), some (.ref 191), some (.int i)] [.int (gI S 32 ((i + (3 : Int32))).toNatClampNeg), .int (gI S 32 ((i + (2 : Int32))).toNatClampNeg), .int (gI S 32 ((i + (1 : Int32))).toNatClampNeg), .ref 33] (mk k S) from ?_))))
  refine JW.callV (y := m_X_wides) (av := [.int (gI S 32 ((i + (1 : Int32))).toNatClampNeg), .int (gI S 32 ((i + (2 : Int32))).toNatClampNeg), .int (gI S 32 ((i + (3 : Int32))).toNatClampNeg)]) (rest := []) (q := 33) C l_law_158 d_law_1416 (isC_st rfl rfl) hX rfl (Nat.le_of_ble_eq_true rfl) (D_ok hD (by decide)) ⟨Nat.le_of_ble_eq_true rfl, Nat.le_of_ble_eq_true rfl⟩ (k_le hk1) (show JL w p e s mid b below meth c 1419 [some (.ref 32), some (.ref 33), some (.ref 191), some (.int i)] [.int r] (mk k1 S1) from ?_)
  have g1 : inb (i + (1 : Int32)) k1.2.1 = true := by rw [hk]; exact g1
  have g2 : inb (i + (2 : Int32)) k1.2.1 = true := by rw [hk]; exact g2
  have g3 : inb (i + (3 : Int32)) k1.2.1 = true := by rw [hk]; exact g3
  refine run_ok C b_law_1419 k_law_1419 (And.intro (okA_scr (S := S1) g1) (And.intro (okA_scr (S := S1) g2) (And.intro (okA_scr (S := S1) g3) (show JL w p e s mid b below meth c 1435 [some (.ref 32), some (.ref 33), some (.ref 191), some (.int i)] [.int (gI S1 32 ((i + (3 : Int32))).toNatClampNeg), .int (gI S1 32 ((i + (2 : Int32))).toNatClampNeg), .int (gI S1 32 ((i + (1 : Int32))).toNatClampNeg), .ref 191, .int r] (mk k1 S1) from ?_))))
  have e32 : ∀ j, gI S1 32 j = gI S 32 j := h32
  simp only [e32]
  refine JW.callV (y := m_M_wides) (av := [.int (gI S 32 ((i + (1 : Int32))).toNatClampNeg), .int (gI S 32 ((i + (2 : Int32))).toNatClampNeg), .int (gI S 32 ((i + (3 : Int32))).toNatClampNeg)]) (rest := [.int r]) (q := 191) C l_law_161 d_law_1435 (isC_st rfl rfl) hM rfl (Nat.le_of_ble_eq_true rfl) (D_ok hD (by decide)) ⟨Nat.le_of_ble_eq_true rfl, Nat.le_of_ble_eq_true rfl⟩ (k_le hk1) (show JL w p e s mid b below meth c 1438 [some (.ref 32), some (.ref 33), some (.ref 191), some (.int i)] [.int r, .int r] (mk k1 S2) from ?_)
  exact lwe C (tgt := 1644) d_law_1438 rfl (kk k1 S2 hk hP)
def b_law_1443 : List Ins := [(.aload_n 1, 0, 0, 0), (.aload_n 0, 0, 0, 0), (.iload_n 3, 0, 0, 0), (.iconst (1), 0, 0, 0), (.iadd, 0, 0, 0), (.iaload, 0, 0, 0), (.aload_n 0, 0, 0, 0), (.iload_n 3, 0, 0, 0), (.iconst (2), 0, 0, 0), (.iadd, 0, 0, 0), (.iaload, 0, 0, 0), (.aload_n 0, 0, 0, 0), (.iload_n 3, 0, 0, 0), (.iconst (3), 0, 0, 0), (.iadd, 0, 0, 0), (.iaload, 0, 0, 0), (.aload_n 0, 0, 0, 0), (.iload_n 3, 0, 0, 0), (.iconst (4), 0, 0, 0), (.iadd, 0, 0, 0), (.iaload, 0, 0, 0)]
theorem k_law_1443 : bok m_law 1443 b_law_1443 = true := by decide +kernel
theorem d_law_1464 : decode m_law.2.1 1464 = .ok (.invokevirtual 162, 3) := by decide +kernel
theorem d_law_1488 : decode m_law.2.1 1488 = .ok (.invokevirtual 166, 3) := by decide +kernel
theorem d_law_1491 : decode m_law.2.1 1491 = .ok (.if_icmp .eq (153), 3) := by decide +kernel
def b_law_1467 : List Ins := [(.aload_n 2, 0, 0, 0), (.aload_n 0, 0, 0, 0), (.iload_n 3, 0, 0, 0), (.iconst (1), 0, 0, 0), (.iadd, 0, 0, 0), (.iaload, 0, 0, 0), (.aload_n 0, 0, 0, 0), (.iload_n 3, 0, 0, 0), (.iconst (2), 0, 0, 0), (.iadd, 0, 0, 0), (.iaload, 0, 0, 0), (.aload_n 0, 0, 0, 0), (.iload_n 3, 0, 0, 0), (.iconst (3), 0, 0, 0), (.iadd, 0, 0, 0), (.iaload, 0, 0, 0), (.aload_n 0, 0, 0, 0), (.iload_n 3, 0, 0, 0), (.iconst (4), 0, 0, 0), (.iadd, 0, 0, 0), (.iaload, 0, 0, 0)]
theorem k_law_1467 : bok m_law 1467 b_law_1467 = true := by decide +kernel
set_option maxHeartbeats 1000000 in
theorem lc_35 {w : Wd} {p : Program} {e : Env} {s : State} {mid : MethodId} {b : Nat} {below : List Frame} {meth : Method} {c : Code} {D : Nat} {k : cx} {S : hs} {P : cx → hs → Prop} (C : Cx w m_law p s mid #[Value.ref b] meth c) (hD : D ≤ 2000) {i : Int32} (g1 : inb (i + (1 : Int32)) k.2.1 = true) (g2 : inb (i + (2 : Int32)) k.2.1 = true) (g3 : inb (i + (3 : Int32)) k.2.1 = true) (g4 : inb (i + (4 : Int32)) k.2.1 = true) (hst : Sp2 w D m_X_shelf m_M_shelf [.int (gI S 32 ((i + (1 : Int32))).toNatClampNeg), .int (gI S 32 ((i + (2 : Int32))).toNatClampNeg), .int (gI S 32 ((i + (3 : Int32))).toNatClampNeg), .int (gI S 32 ((i + (4 : Int32))).toNatClampNeg)] k S P) (kk : ∀ k1 S2, k1.2.1 = k.2.1 → P k1 S2 → JL w p e s mid b below meth c 1644 [some (.ref 32), some (.ref 33), some (.ref 191), some (.int i)] [] (mk k1 S2)) : JL w p e s mid b below meth c 1443 [some (.ref 32), some (.ref 33), some (.ref 191), some (.int i)] [] (mk k S) := by
  obtain ⟨r, k1, S1, S2, hX, hM, hk, hk1, h32, hP⟩ := hst
  refine run_ok C b_law_1443 k_law_1443 (And.intro (okA_scr (S := S) g1) (And.intro (okA_scr (S := S) g2) (And.intro (okA_scr (S := S) g3) (And.intro (okA_scr (S := S) g4) (show JL w p e s mid b below meth c 1464 [some (.ref 32), some (.ref 33), some (.ref 191), some (.int i)] [.int (gI S 32 ((i + (4 : Int32))).toNatClampNeg), .int (gI S 32 ((i + (3 : Int32))).toNatClampNeg), .int (gI S 32 ((i + (2 : Int32))).toNatClampNeg), .int (gI S 32 ((i + (1 : Int32))).toNatClampNeg), .ref 33] (mk k S) from ?_)))))
  refine JW.callV (y := m_X_shelf) (av := [.int (gI S 32 ((i + (1 : Int32))).toNatClampNeg), .int (gI S 32 ((i + (2 : Int32))).toNatClampNeg), .int (gI S 32 ((i + (3 : Int32))).toNatClampNeg), .int (gI S 32 ((i + (4 : Int32))).toNatClampNeg)]) (rest := []) (q := 33) C l_law_162 d_law_1464 (isC_st rfl rfl) hX rfl (Nat.le_of_ble_eq_true rfl) (D_ok hD (by decide)) ⟨Nat.le_of_ble_eq_true rfl, Nat.le_of_ble_eq_true rfl⟩ (k_le hk1) (show JL w p e s mid b below meth c 1467 [some (.ref 32), some (.ref 33), some (.ref 191), some (.int i)] [.int r] (mk k1 S1) from ?_)
  have g1 : inb (i + (1 : Int32)) k1.2.1 = true := by rw [hk]; exact g1
  have g2 : inb (i + (2 : Int32)) k1.2.1 = true := by rw [hk]; exact g2
  have g3 : inb (i + (3 : Int32)) k1.2.1 = true := by rw [hk]; exact g3
  have g4 : inb (i + (4 : Int32)) k1.2.1 = true := by rw [hk]; exact g4
  refine run_ok C b_law_1467 k_law_1467 (And.intro (okA_scr (S := S1) g1) (And.intro (okA_scr (S := S1) g2) (And.intro (okA_scr (S := S1) g3) (And.intro (okA_scr (S := S1) g4) (show JL w p e s mid b below meth c 1488 [some (.ref 32), some (.ref 33), some (.ref 191), some (.int i)] [.int (gI S1 32 ((i + (4 : Int32))).toNatClampNeg), .int (gI S1 32 ((i + (3 : Int32))).toNatClampNeg), .int (gI S1 32 ((i + (2 : Int32))).toNatClampNeg), .int (gI S1 32 ((i + (1 : Int32))).toNatClampNeg), .ref 191, .int r] (mk k1 S1) from ?_)))))
  have e32 : ∀ j, gI S1 32 j = gI S 32 j := h32
  simp only [e32]
  refine JW.callV (y := m_M_shelf) (av := [.int (gI S 32 ((i + (1 : Int32))).toNatClampNeg), .int (gI S 32 ((i + (2 : Int32))).toNatClampNeg), .int (gI S 32 ((i + (3 : Int32))).toNatClampNeg), .int (gI S 32 ((i + (4 : Int32))).toNatClampNeg)]) (rest := [.int r]) (q := 191) C l_law_166 d_law_1488 (isC_st rfl rfl) hM rfl (Nat.le_of_ble_eq_true rfl) (D_ok hD (by decide)) ⟨Nat.le_of_ble_eq_true rfl, Nat.le_of_ble_eq_true rfl⟩ (k_le hk1) (show JL w p e s mid b below meth c 1491 [some (.ref 32), some (.ref 33), some (.ref 191), some (.int i)] [.int r, .int r] (mk k1 S2) from ?_)
  exact lwe C (tgt := 1644) d_law_1491 rfl (kk k1 S2 hk hP)
def b_law_1496 : List Ins := [(.aload_n 1, 0, 0, 0), (.aload_n 0, 0, 0, 0), (.iload_n 3, 0, 0, 0), (.iconst (1), 0, 0, 0), (.iadd, 0, 0, 0), (.iaload, 0, 0, 0), (.aload_n 0, 0, 0, 0), (.iload_n 3, 0, 0, 0), (.iconst (2), 0, 0, 0), (.iadd, 0, 0, 0), (.iaload, 0, 0, 0)]
theorem k_law_1496 : bok m_law 1496 b_law_1496 = true := by decide +kernel
theorem d_law_1507 : decode m_law.2.1 1507 = .ok (.invokevirtual 167, 3) := by decide +kernel
theorem d_law_1521 : decode m_law.2.1 1521 = .ok (.invokevirtual 170, 3) := by decide +kernel
theorem d_law_1524 : decode m_law.2.1 1524 = .ok (.if_icmp .eq (120), 3) := by decide +kernel
def b_law_1510 : List Ins := [(.aload_n 2, 0, 0, 0), (.aload_n 0, 0, 0, 0), (.iload_n 3, 0, 0, 0), (.iconst (1), 0, 0, 0), (.iadd, 0, 0, 0), (.iaload, 0, 0, 0), (.aload_n 0, 0, 0, 0), (.iload_n 3, 0, 0, 0), (.iconst (2), 0, 0, 0), (.iadd, 0, 0, 0), (.iaload, 0, 0, 0)]
theorem k_law_1510 : bok m_law 1510 b_law_1510 = true := by decide +kernel
set_option maxHeartbeats 1000000 in
theorem lc_36 {w : Wd} {p : Program} {e : Env} {s : State} {mid : MethodId} {b : Nat} {below : List Frame} {meth : Method} {c : Code} {D : Nat} {k : cx} {S : hs} {P : cx → hs → Prop} (C : Cx w m_law p s mid #[Value.ref b] meth c) (hD : D ≤ 2000) {i : Int32} (g1 : inb (i + (1 : Int32)) k.2.1 = true) (g2 : inb (i + (2 : Int32)) k.2.1 = true) (hst : Sp2 w D m_X_taken m_M_taken [.int (gI S 32 ((i + (1 : Int32))).toNatClampNeg), .int (gI S 32 ((i + (2 : Int32))).toNatClampNeg)] k S P) (kk : ∀ k1 S2, k1.2.1 = k.2.1 → P k1 S2 → JL w p e s mid b below meth c 1644 [some (.ref 32), some (.ref 33), some (.ref 191), some (.int i)] [] (mk k1 S2)) : JL w p e s mid b below meth c 1496 [some (.ref 32), some (.ref 33), some (.ref 191), some (.int i)] [] (mk k S) := by
  obtain ⟨r, k1, S1, S2, hX, hM, hk, hk1, h32, hP⟩ := hst
  refine run_ok C b_law_1496 k_law_1496 (And.intro (okA_scr (S := S) g1) (And.intro (okA_scr (S := S) g2) (show JL w p e s mid b below meth c 1507 [some (.ref 32), some (.ref 33), some (.ref 191), some (.int i)] [.int (gI S 32 ((i + (2 : Int32))).toNatClampNeg), .int (gI S 32 ((i + (1 : Int32))).toNatClampNeg), .ref 33] (mk k S) from ?_)))
  refine JW.callV (y := m_X_taken) (av := [.int (gI S 32 ((i + (1 : Int32))).toNatClampNeg), .int (gI S 32 ((i + (2 : Int32))).toNatClampNeg)]) (rest := []) (q := 33) C l_law_167 d_law_1507 (isC_st rfl rfl) hX rfl (Nat.le_of_ble_eq_true rfl) (D_ok hD (by decide)) ⟨Nat.le_of_ble_eq_true rfl, Nat.le_of_ble_eq_true rfl⟩ (k_le hk1) (show JL w p e s mid b below meth c 1510 [some (.ref 32), some (.ref 33), some (.ref 191), some (.int i)] [.int r] (mk k1 S1) from ?_)
  have g1 : inb (i + (1 : Int32)) k1.2.1 = true := by rw [hk]; exact g1
  have g2 : inb (i + (2 : Int32)) k1.2.1 = true := by rw [hk]; exact g2
  refine run_ok C b_law_1510 k_law_1510 (And.intro (okA_scr (S := S1) g1) (And.intro (okA_scr (S := S1) g2) (show JL w p e s mid b below meth c 1521 [some (.ref 32), some (.ref 33), some (.ref 191), some (.int i)] [.int (gI S1 32 ((i + (2 : Int32))).toNatClampNeg), .int (gI S1 32 ((i + (1 : Int32))).toNatClampNeg), .ref 191, .int r] (mk k1 S1) from ?_)))
  have e32 : ∀ j, gI S1 32 j = gI S 32 j := h32
  simp only [e32]
  refine JW.callV (y := m_M_taken) (av := [.int (gI S 32 ((i + (1 : Int32))).toNatClampNeg), .int (gI S 32 ((i + (2 : Int32))).toNatClampNeg)]) (rest := [.int r]) (q := 191) C l_law_170 d_law_1521 (isC_st rfl rfl) hM rfl (Nat.le_of_ble_eq_true rfl) (D_ok hD (by decide)) ⟨Nat.le_of_ble_eq_true rfl, Nat.le_of_ble_eq_true rfl⟩ (k_le hk1) (show JL w p e s mid b below meth c 1524 [some (.ref 32), some (.ref 33), some (.ref 191), some (.int i)] [.int r, .int r] (mk k1 S2) from ?_)
  exact lwe C (tgt := 1644) d_law_1524 rfl (kk k1 S2 hk hP)
def b_law_1529 : List Ins := [(.aload_n 1, 0, 0, 0), (.aload_n 0, 0, 0, 0), (.iload_n 3, 0, 0, 0), (.iconst (1), 0, 0, 0), (.iadd, 0, 0, 0), (.iaload, 0, 0, 0), (.aload_n 0, 0, 0, 0), (.iload_n 3, 0, 0, 0), (.iconst (2), 0, 0, 0), (.iadd, 0, 0, 0), (.iaload, 0, 0, 0), (.aload_n 0, 0, 0, 0), (.iload_n 3, 0, 0, 0), (.iconst (3), 0, 0, 0), (.iadd, 0, 0, 0), (.iaload, 0, 0, 0)]
theorem k_law_1529 : bok m_law 1529 b_law_1529 = true := by decide +kernel
theorem d_law_1545 : decode m_law.2.1 1545 = .ok (.invokevirtual 171, 3) := by decide +kernel
theorem d_law_1564 : decode m_law.2.1 1564 = .ok (.invokevirtual 174, 3) := by decide +kernel
theorem d_law_1567 : decode m_law.2.1 1567 = .ok (.if_icmp .eq (77), 3) := by decide +kernel
def b_law_1548 : List Ins := [(.aload_n 2, 0, 0, 0), (.aload_n 0, 0, 0, 0), (.iload_n 3, 0, 0, 0), (.iconst (1), 0, 0, 0), (.iadd, 0, 0, 0), (.iaload, 0, 0, 0), (.aload_n 0, 0, 0, 0), (.iload_n 3, 0, 0, 0), (.iconst (2), 0, 0, 0), (.iadd, 0, 0, 0), (.iaload, 0, 0, 0), (.aload_n 0, 0, 0, 0), (.iload_n 3, 0, 0, 0), (.iconst (3), 0, 0, 0), (.iadd, 0, 0, 0), (.iaload, 0, 0, 0)]
theorem k_law_1548 : bok m_law 1548 b_law_1548 = true := by decide +kernel
set_option maxHeartbeats 1000000 in
theorem lc_37 {w : Wd} {p : Program} {e : Env} {s : State} {mid : MethodId} {b : Nat} {below : List Frame} {meth : Method} {c : Code} {D : Nat} {k : cx} {S : hs} {P : cx → hs → Prop} (C : Cx w m_law p s mid #[Value.ref b] meth c) (hD : D ≤ 2000) {i : Int32} (g1 : inb (i + (1 : Int32)) k.2.1 = true) (g2 : inb (i + (2 : Int32)) k.2.1 = true) (g3 : inb (i + (3 : Int32)) k.2.1 = true) (hst : Sp2 w D m_X_act m_M_act [.int (gI S 32 ((i + (1 : Int32))).toNatClampNeg), .int (gI S 32 ((i + (2 : Int32))).toNatClampNeg), .int (gI S 32 ((i + (3 : Int32))).toNatClampNeg)] k S P) (kk : ∀ k1 S2, k1.2.1 = k.2.1 → P k1 S2 → JL w p e s mid b below meth c 1644 [some (.ref 32), some (.ref 33), some (.ref 191), some (.int i)] [] (mk k1 S2)) : JL w p e s mid b below meth c 1529 [some (.ref 32), some (.ref 33), some (.ref 191), some (.int i)] [] (mk k S) := by
  obtain ⟨r, k1, S1, S2, hX, hM, hk, hk1, h32, hP⟩ := hst
  refine run_ok C b_law_1529 k_law_1529 (And.intro (okA_scr (S := S) g1) (And.intro (okA_scr (S := S) g2) (And.intro (okA_scr (S := S) g3) (show JL w p e s mid b below meth c 1545 [some (.ref 32), some (.ref 33), some (.ref 191), some (.int i)] [.int (gI S 32 ((i + (3 : Int32))).toNatClampNeg), .int (gI S 32 ((i + (2 : Int32))).toNatClampNeg), .int (gI S 32 ((i + (1 : Int32))).toNatClampNeg), .ref 33] (mk k S) from ?_))))
  refine JW.callV (y := m_X_act) (av := [.int (gI S 32 ((i + (1 : Int32))).toNatClampNeg), .int (gI S 32 ((i + (2 : Int32))).toNatClampNeg), .int (gI S 32 ((i + (3 : Int32))).toNatClampNeg)]) (rest := []) (q := 33) C l_law_171 d_law_1545 (isC_st rfl rfl) hX rfl (Nat.le_of_ble_eq_true rfl) (D_ok hD (by decide)) ⟨Nat.le_of_ble_eq_true rfl, Nat.le_of_ble_eq_true rfl⟩ (k_le hk1) (show JL w p e s mid b below meth c 1548 [some (.ref 32), some (.ref 33), some (.ref 191), some (.int i)] [.int r] (mk k1 S1) from ?_)
  have g1 : inb (i + (1 : Int32)) k1.2.1 = true := by rw [hk]; exact g1
  have g2 : inb (i + (2 : Int32)) k1.2.1 = true := by rw [hk]; exact g2
  have g3 : inb (i + (3 : Int32)) k1.2.1 = true := by rw [hk]; exact g3
  refine run_ok C b_law_1548 k_law_1548 (And.intro (okA_scr (S := S1) g1) (And.intro (okA_scr (S := S1) g2) (And.intro (okA_scr (S := S1) g3) (show JL w p e s mid b below meth c 1564 [some (.ref 32), some (.ref 33), some (.ref 191), some (.int i)] [.int (gI S1 32 ((i + (3 : Int32))).toNatClampNeg), .int (gI S1 32 ((i + (2 : Int32))).toNatClampNeg), .int (gI S1 32 ((i + (1 : Int32))).toNatClampNeg), .ref 191, .int r] (mk k1 S1) from ?_))))
  have e32 : ∀ j, gI S1 32 j = gI S 32 j := h32
  simp only [e32]
  refine JW.callV (y := m_M_act) (av := [.int (gI S 32 ((i + (1 : Int32))).toNatClampNeg), .int (gI S 32 ((i + (2 : Int32))).toNatClampNeg), .int (gI S 32 ((i + (3 : Int32))).toNatClampNeg)]) (rest := [.int r]) (q := 191) C l_law_174 d_law_1564 (isC_st rfl rfl) hM rfl (Nat.le_of_ble_eq_true rfl) (D_ok hD (by decide)) ⟨Nat.le_of_ble_eq_true rfl, Nat.le_of_ble_eq_true rfl⟩ (k_le hk1) (show JL w p e s mid b below meth c 1567 [some (.ref 32), some (.ref 33), some (.ref 191), some (.int i)] [.int r, .int r] (mk k1 S2) from ?_)
  exact lwe C (tgt := 1644) d_law_1567 rfl (kk k1 S2 hk hP)
def b_law_1572 : List Ins := [(.aload_n 1, 0, 0, 0), (.aload_n 0, 0, 0, 0), (.iload_n 3, 0, 0, 0), (.iconst (1), 0, 0, 0), (.iadd, 0, 0, 0), (.iaload, 0, 0, 0)]
theorem k_law_1572 : bok m_law 1572 b_law_1572 = true := by decide +kernel
theorem d_law_1578 : decode m_law.2.1 1578 = .ok (.invokevirtual 175, 3) := by decide +kernel
theorem d_law_1587 : decode m_law.2.1 1587 = .ok (.invokevirtual 178, 3) := by decide +kernel
theorem d_law_1590 : decode m_law.2.1 1590 = .ok (.if_icmp .eq (54), 3) := by decide +kernel
def b_law_1581 : List Ins := [(.aload_n 2, 0, 0, 0), (.aload_n 0, 0, 0, 0), (.iload_n 3, 0, 0, 0), (.iconst (1), 0, 0, 0), (.iadd, 0, 0, 0), (.iaload, 0, 0, 0)]
theorem k_law_1581 : bok m_law 1581 b_law_1581 = true := by decide +kernel
set_option maxHeartbeats 1000000 in
theorem lc_38 {w : Wd} {p : Program} {e : Env} {s : State} {mid : MethodId} {b : Nat} {below : List Frame} {meth : Method} {c : Code} {D : Nat} {k : cx} {S : hs} {P : cx → hs → Prop} (C : Cx w m_law p s mid #[Value.ref b] meth c) (hD : D ≤ 2000) {i : Int32} (g1 : inb (i + (1 : Int32)) k.2.1 = true) (hst : Sp2 w D m_X_trace m_M_trace [.int (gI S 32 ((i + (1 : Int32))).toNatClampNeg)] k S P) (kk : ∀ k1 S2, k1.2.1 = k.2.1 → P k1 S2 → JL w p e s mid b below meth c 1644 [some (.ref 32), some (.ref 33), some (.ref 191), some (.int i)] [] (mk k1 S2)) : JL w p e s mid b below meth c 1572 [some (.ref 32), some (.ref 33), some (.ref 191), some (.int i)] [] (mk k S) := by
  obtain ⟨r, k1, S1, S2, hX, hM, hk, hk1, h32, hP⟩ := hst
  refine run_ok C b_law_1572 k_law_1572 (And.intro (okA_scr (S := S) g1) (show JL w p e s mid b below meth c 1578 [some (.ref 32), some (.ref 33), some (.ref 191), some (.int i)] [.int (gI S 32 ((i + (1 : Int32))).toNatClampNeg), .ref 33] (mk k S) from ?_))
  refine JW.callV (y := m_X_trace) (av := [.int (gI S 32 ((i + (1 : Int32))).toNatClampNeg)]) (rest := []) (q := 33) C l_law_175 d_law_1578 (isC_st rfl rfl) hX rfl (Nat.le_of_ble_eq_true rfl) (D_ok hD (by decide)) ⟨Nat.le_of_ble_eq_true rfl, Nat.le_of_ble_eq_true rfl⟩ (k_le hk1) (show JL w p e s mid b below meth c 1581 [some (.ref 32), some (.ref 33), some (.ref 191), some (.int i)] [.int r] (mk k1 S1) from ?_)
  have g1 : inb (i + (1 : Int32)) k1.2.1 = true := by rw [hk]; exact g1
  refine run_ok C b_law_1581 k_law_1581 (And.intro (okA_scr (S := S1) g1) (show JL w p e s mid b below meth c 1587 [some (.ref 32), some (.ref 33), some (.ref 191), some (.int i)] [.int (gI S1 32 ((i + (1 : Int32))).toNatClampNeg), .ref 191, .int r] (mk k1 S1) from ?_))
  have e32 : ∀ j, gI S1 32 j = gI S 32 j := h32
  simp only [e32]
  refine JW.callV (y := m_M_trace) (av := [.int (gI S 32 ((i + (1 : Int32))).toNatClampNeg)]) (rest := [.int r]) (q := 191) C l_law_178 d_law_1587 (isC_st rfl rfl) hM rfl (Nat.le_of_ble_eq_true rfl) (D_ok hD (by decide)) ⟨Nat.le_of_ble_eq_true rfl, Nat.le_of_ble_eq_true rfl⟩ (k_le hk1) (show JL w p e s mid b below meth c 1590 [some (.ref 32), some (.ref 33), some (.ref 191), some (.int i)] [.int r, .int r] (mk k1 S2) from ?_)
  exact lwe C (tgt := 1644) d_law_1590 rfl (kk k1 S2 hk hP)
def b_law_1595 : List Ins := [(.aload_n 1, 0, 0, 0), (.aload_n 0, 0, 0, 0), (.iload_n 3, 0, 0, 0), (.iconst (1), 0, 0, 0), (.iadd, 0, 0, 0), (.iaload, 0, 0, 0)]
theorem k_law_1595 : bok m_law 1595 b_law_1595 = true := by decide +kernel
theorem d_law_1601 : decode m_law.2.1 1601 = .ok (.invokevirtual 179, 3) := by decide +kernel
theorem d_law_1610 : decode m_law.2.1 1610 = .ok (.invokevirtual 182, 3) := by decide +kernel
theorem d_law_1613 : decode m_law.2.1 1613 = .ok (.if_icmp .eq (31), 3) := by decide +kernel
def b_law_1604 : List Ins := [(.aload_n 2, 0, 0, 0), (.aload_n 0, 0, 0, 0), (.iload_n 3, 0, 0, 0), (.iconst (1), 0, 0, 0), (.iadd, 0, 0, 0), (.iaload, 0, 0, 0)]
theorem k_law_1604 : bok m_law 1604 b_law_1604 = true := by decide +kernel
set_option maxHeartbeats 1000000 in
theorem lc_39 {w : Wd} {p : Program} {e : Env} {s : State} {mid : MethodId} {b : Nat} {below : List Frame} {meth : Method} {c : Code} {D : Nat} {k : cx} {S : hs} {P : cx → hs → Prop} (C : Cx w m_law p s mid #[Value.ref b] meth c) (hD : D ≤ 2000) {i : Int32} (g1 : inb (i + (1 : Int32)) k.2.1 = true) (hst : Sp2 w D m_X_many m_M_many [.int (gI S 32 ((i + (1 : Int32))).toNatClampNeg)] k S P) (kk : ∀ k1 S2, k1.2.1 = k.2.1 → P k1 S2 → JL w p e s mid b below meth c 1644 [some (.ref 32), some (.ref 33), some (.ref 191), some (.int i)] [] (mk k1 S2)) : JL w p e s mid b below meth c 1595 [some (.ref 32), some (.ref 33), some (.ref 191), some (.int i)] [] (mk k S) := by
  obtain ⟨r, k1, S1, S2, hX, hM, hk, hk1, h32, hP⟩ := hst
  refine run_ok C b_law_1595 k_law_1595 (And.intro (okA_scr (S := S) g1) (show JL w p e s mid b below meth c 1601 [some (.ref 32), some (.ref 33), some (.ref 191), some (.int i)] [.int (gI S 32 ((i + (1 : Int32))).toNatClampNeg), .ref 33] (mk k S) from ?_))
  refine JW.callV (y := m_X_many) (av := [.int (gI S 32 ((i + (1 : Int32))).toNatClampNeg)]) (rest := []) (q := 33) C l_law_179 d_law_1601 (isC_st rfl rfl) hX rfl (Nat.le_of_ble_eq_true rfl) (D_ok hD (by decide)) ⟨Nat.le_of_ble_eq_true rfl, Nat.le_of_ble_eq_true rfl⟩ (k_le hk1) (show JL w p e s mid b below meth c 1604 [some (.ref 32), some (.ref 33), some (.ref 191), some (.int i)] [.int r] (mk k1 S1) from ?_)
  have g1 : inb (i + (1 : Int32)) k1.2.1 = true := by rw [hk]; exact g1
  refine run_ok C b_law_1604 k_law_1604 (And.intro (okA_scr (S := S1) g1) (show JL w p e s mid b below meth c 1610 [some (.ref 32), some (.ref 33), some (.ref 191), some (.int i)] [.int (gI S1 32 ((i + (1 : Int32))).toNatClampNeg), .ref 191, .int r] (mk k1 S1) from ?_))
  have e32 : ∀ j, gI S1 32 j = gI S 32 j := h32
  simp only [e32]
  refine JW.callV (y := m_M_many) (av := [.int (gI S 32 ((i + (1 : Int32))).toNatClampNeg)]) (rest := [.int r]) (q := 191) C l_law_182 d_law_1610 (isC_st rfl rfl) hM rfl (Nat.le_of_ble_eq_true rfl) (D_ok hD (by decide)) ⟨Nat.le_of_ble_eq_true rfl, Nat.le_of_ble_eq_true rfl⟩ (k_le hk1) (show JL w p e s mid b below meth c 1613 [some (.ref 32), some (.ref 33), some (.ref 191), some (.int i)] [.int r, .int r] (mk k1 S2) from ?_)
  exact lwe C (tgt := 1644) d_law_1613 rfl (kk k1 S2 hk hP)
def b_law_1618 : List Ins := [(.aload_n 1, 0, 0, 0)]
theorem k_law_1618 : bok m_law 1618 b_law_1618 = true := by decide +kernel
theorem d_law_1619 : decode m_law.2.1 1619 = .ok (.invokevirtual 183, 3) := by decide +kernel
theorem d_law_1623 : decode m_law.2.1 1623 = .ok (.invokevirtual 186, 3) := by decide +kernel
theorem d_law_1626 : decode m_law.2.1 1626 = .ok (.if_icmp .eq (18), 3) := by decide +kernel
def b_law_1622 : List Ins := [(.aload_n 2, 0, 0, 0)]
theorem k_law_1622 : bok m_law 1622 b_law_1622 = true := by decide +kernel
set_option maxHeartbeats 1000000 in
theorem lc_40 {w : Wd} {p : Program} {e : Env} {s : State} {mid : MethodId} {b : Nat} {below : List Frame} {meth : Method} {c : Code} {D : Nat} {k : cx} {S : hs} {P : cx → hs → Prop} (C : Cx w m_law p s mid #[Value.ref b] meth c) (hD : D ≤ 2000) {i : Int32}  (hst : Sp2 w D m_X_keep m_M_keep [] k S P) (kk : ∀ k1 S2, k1.2.1 = k.2.1 → P k1 S2 → JL w p e s mid b below meth c 1644 [some (.ref 32), some (.ref 33), some (.ref 191), some (.int i)] [] (mk k1 S2)) : JL w p e s mid b below meth c 1618 [some (.ref 32), some (.ref 33), some (.ref 191), some (.int i)] [] (mk k S) := by
  obtain ⟨r, k1, S1, S2, hX, hM, hk, hk1, h32, hP⟩ := hst
  refine run_ok C b_law_1618 k_law_1618 (show JL w p e s mid b below meth c 1619 [some (.ref 32), some (.ref 33), some (.ref 191), some (.int i)] [.ref 33] (mk k S) from ?_)
  refine JW.callV (y := m_X_keep) (av := []) (rest := []) (q := 33) C l_law_183 d_law_1619 (isC_st rfl rfl) hX rfl (Nat.le_of_ble_eq_true rfl) (D_ok hD (by decide)) ⟨Nat.le_of_ble_eq_true rfl, Nat.le_of_ble_eq_true rfl⟩ (k_le hk1) (show JL w p e s mid b below meth c 1622 [some (.ref 32), some (.ref 33), some (.ref 191), some (.int i)] [.int r] (mk k1 S1) from ?_)
  refine run_ok C b_law_1622 k_law_1622 (show JL w p e s mid b below meth c 1623 [some (.ref 32), some (.ref 33), some (.ref 191), some (.int i)] [.ref 191, .int r] (mk k1 S1) from ?_)
  refine JW.callV (y := m_M_keep) (av := []) (rest := [.int r]) (q := 191) C l_law_186 d_law_1623 (isC_st rfl rfl) hM rfl (Nat.le_of_ble_eq_true rfl) (D_ok hD (by decide)) ⟨Nat.le_of_ble_eq_true rfl, Nat.le_of_ble_eq_true rfl⟩ (k_le hk1) (show JL w p e s mid b below meth c 1626 [some (.ref 32), some (.ref 33), some (.ref 191), some (.int i)] [.int r, .int r] (mk k1 S2) from ?_)
  exact lwe C (tgt := 1644) d_law_1626 rfl (kk k1 S2 hk hP)
def b_law_1631 : List Ins := [(.aload_n 1, 0, 0, 0)]
theorem k_law_1631 : bok m_law 1631 b_law_1631 = true := by decide +kernel
theorem d_law_1632 : decode m_law.2.1 1632 = .ok (.invokevirtual 187, 3) := by decide +kernel
theorem d_law_1636 : decode m_law.2.1 1636 = .ok (.invokevirtual 190, 3) := by decide +kernel
theorem d_law_1639 : decode m_law.2.1 1639 = .ok (.if_icmp .eq (5), 3) := by decide +kernel
def b_law_1635 : List Ins := [(.aload_n 2, 0, 0, 0)]
theorem k_law_1635 : bok m_law 1635 b_law_1635 = true := by decide +kernel
set_option maxHeartbeats 1000000 in
theorem lc_41 {w : Wd} {p : Program} {e : Env} {s : State} {mid : MethodId} {b : Nat} {below : List Frame} {meth : Method} {c : Code} {D : Nat} {k : cx} {S : hs} {P : cx → hs → Prop} (C : Cx w m_law p s mid #[Value.ref b] meth c) (hD : D ≤ 2000) {i : Int32}  (hst : Sp2 w D m_X_again m_M_again [] k S P) (kk : ∀ k1 S2, k1.2.1 = k.2.1 → P k1 S2 → JL w p e s mid b below meth c 1644 [some (.ref 32), some (.ref 33), some (.ref 191), some (.int i)] [] (mk k1 S2)) : JL w p e s mid b below meth c 1631 [some (.ref 32), some (.ref 33), some (.ref 191), some (.int i)] [] (mk k S) := by
  obtain ⟨r, k1, S1, S2, hX, hM, hk, hk1, h32, hP⟩ := hst
  refine run_ok C b_law_1631 k_law_1631 (show JL w p e s mid b below meth c 1632 [some (.ref 32), some (.ref 33), some (.ref 191), some (.int i)] [.ref 33] (mk k S) from ?_)
  refine JW.callV (y := m_X_again) (av := []) (rest := []) (q := 33) C l_law_187 d_law_1632 (isC_st rfl rfl) hX rfl (Nat.le_of_ble_eq_true rfl) (D_ok hD (by decide)) ⟨Nat.le_of_ble_eq_true rfl, Nat.le_of_ble_eq_true rfl⟩ (k_le hk1) (show JL w p e s mid b below meth c 1635 [some (.ref 32), some (.ref 33), some (.ref 191), some (.int i)] [.int r] (mk k1 S1) from ?_)
  refine run_ok C b_law_1635 k_law_1635 (show JL w p e s mid b below meth c 1636 [some (.ref 32), some (.ref 33), some (.ref 191), some (.int i)] [.ref 191, .int r] (mk k1 S1) from ?_)
  refine JW.callV (y := m_M_again) (av := []) (rest := [.int r]) (q := 191) C l_law_190 d_law_1636 (isC_st rfl rfl) hM rfl (Nat.le_of_ble_eq_true rfl) (D_ok hD (by decide)) ⟨Nat.le_of_ble_eq_true rfl, Nat.le_of_ble_eq_true rfl⟩ (k_le hk1) (show JL w p e s mid b below meth c 1639 [some (.ref 32), some (.ref 33), some (.ref 191), some (.int i)] [.int r, .int r] (mk k1 S2) from ?_)
  exact lwe C (tgt := 1644) d_law_1639 rfl (kk k1 S2 hk hP)
