/-! The law's entry: what is given of the world, as a picture. -/
def sIx (i : Nat) : Nat := if i = 0 then 82 else 86 + 2 * i
def sTm (i : Nat) : Term := .string "LeftTown$LawReader" (sIx i)
def sVa (i : Nat) : Term := .field (sTm i) "java/lang/String" "value" "[B"
def sBy : List (List Int32) := [[116, 117, 114, 110], [111, 110], [108, 101, 102, 116], [115, 104, 97, 114, 112], [114, 105, 103, 104, 116], [114, 111, 117, 110, 100], [119, 105, 100, 101], [119, 97, 115], [108, 111, 110, 103], [100, 97, 121], [119, 105, 100, 116, 104], [112, 108, 97, 99, 101], [105, 102], [111, 114], [97, 110, 100], [110, 111, 116]]
def sLn (i : Nat) : Nat := (sBy.getD i []).length
def flw : List Cond := flatC (Jvm.Cond.and given_1 narrow_1)
def stw (i : Nat) : Bool := decide (Cond.exactly (sTm i) "java/lang/String" ∈ flw) && decide (Cond.eq (.field (sTm i) "java/lang/String" "coder" "B") (.int 0) ∈ flw) && decide (Cond.arrayOf (sVa i) .byte ∈ flw) && decide (Cond.eq (.length (sVa i)) (.int (Int32.ofNat (sLn i))) ∈ flw) && (List.range (sLn i)).all fun j => decide (Cond.eq (.elem (sVa i) (.int (Int32.ofNat j))) (.int ((sBy.getD i []).getD j 0)) ∈ flw)
theorem stw_ok : (List.range 16).all stw = true := by decide +kernel
theorem sLn_s {i : Nat} (hi : i < 16) : sLn i < 2 ^ 31 := by
  have h : ((List.range 16).all fun i => decide (sLn i < 2 ^ 31)) = true := by decide +kernel
  exact of_decide_eq_true (List.all_eq_true.mp h i (List.mem_range.mpr hi))
/-- one text -/
def stO (i : Nat) (q : Nat × Nat) (args : Array Value) (s : State) (A : Nat → Prop) : Prop := (sTm i).eval args s none [] s = some (.ref q.1) ∧ va_O "java/lang/String" q.1 A s s.heap ∧ va_OF "java/lang/String" "coder" "B" (.int 0) q.1 A s s.heap ∧ va_OF "java/lang/String" "value" "[B" (.ref q.2) q.1 A s s.heap ∧ va_T .byte q.2 (sLn i) (fun j => .int ((sBy.getD i []).getD j 0)) A s s.heap
theorem st_one {args : Array Value} {s : State} {A : Nat → Prop} (hf : ∀ c ∈ flw, c.before args s = true) (hA : ∀ a : Nat, a < s.heap.size → ¬ A a) {i : Nat} (hi : i < 16) : ∃ q : Nat × Nat, stO i q args s A := by
  have h := List.all_eq_true.mp stw_ok i (List.mem_range.mpr hi)
  unfold stw at h
  simp only [Bool.and_eq_true, decide_eq_true_eq] at h
  obtain ⟨⟨⟨⟨h1, h2⟩, h3⟩, h4⟩, h5⟩ := h
  obtain ⟨a, c, cA, kA, q1, q2, q3, q4, q5, q6, -⟩ := Cond.exactly_spec (args := args) (first := s) (o := none) (s := s) (idx := []) (t := sTm i) (cls := "java/lang/String") (hf _ h1)
  obtain ⟨t, ht, hT⟩ := va_Tof (f := fun j => .int ((sBy.getD i []).getD j 0)) (A := A) (N := sLn i) (sLn_s hi) (hf _ h3) (va_eqt (hf _ h4)) (fun j hj => va_eqt (hf _ (of_decide_eq_true (List.all_eq_true.mp h5 j (List.mem_range.mpr hj))))) hA
  exact ⟨(a, t), q1, ⟨cA, q3, q5, by rw [q6]; exact q2, hA a (Array.getElem?_eq_some_iff.mp q3).1⟩, vk_OFof q1 (va_eqt (hf _ h2)) hA, vk_OFof q1 ht hA, hT⟩
theorem eqR {args : Array Value} {s : State} {t u : Term} {a : Nat} (h : (Cond.eq t u).before args s = true) (ht : t.eval args s none [] s = some (.ref a)) : u.eval args s none [] s = some (.ref a) := by
  cases hv : u.eval args s none [] s with
  | none => simp [Cond.before, Cond.holds, Cond.value, ht, hv] at h
  | some w =>
    simp only [Cond.before, Cond.holds, Cond.value, ht, hv] at h
    cases w <;> simp_all
/-- the words of the texts' places -/
def srw (e : String × Nat × String × Nat) : Bool := decide (Cond.stringRef e.1 e.2.1 e.2.2.1 ∈ lw_tbl) && decide (e.2.2.2 < 16) && ((decide (e.1 = "LeftTown$LawReader") && decide (e.2.1 = sIx e.2.2.2)) || decide (Cond.eq (sTm e.2.2.2) (.string e.1 e.2.1) ∈ flw))
theorem srw_ok : srf.all srw = true := by decide +kernel
theorem nxw_tb : (nxw.all fun x => decide (x ∈ lw_tbl)) = true := by decide +kernel
theorem nxw_A : ∀ x ∈ nxw, ∀ (A : Array Value) (s : State), x.before A s = true → va_Nw x s := by
  intro x hx
  simp only [nxw, List.mem_cons, List.not_mem_nil, or_false] at hx
  rcases hx with rfl | rfl | rfl | rfl | rfl | rfl | rfl | rfl | rfl | rfl | rfl | rfl | rfl | rfl | rfl | rfl <;> exact fun A s h => h
theorem lok_tbl {x : Cond} (h : x ∈ lw_ok) : x ∈ lw_tbl := (List.mem_filter.mp h).1
/-- the ints of the start: the texts' bytes, the script -/
def s0 (xs : Nat → Int32) : hs := ((fun r j => if r < 16 then 0 else if r < 32 then (sBy.getD (r - 16) []).getD j 0 else if r = 32 then xs j else 0), fun _ _ => 0)
theorem s0_Z {xs : Nat → Int32} : Zb 33 (s0 xs) nR := fun r hr j => ⟨by show (if r < 16 then (0 : Int32) else if r < 32 then _ else if r = 32 then xs j else 0) = 0; rw [if_neg (by omega), if_neg (by omega), if_neg (by omega)], rfl, rfl⟩
theorem tK_b : ((List.range 16).all fun i => decide (tK (16 + i) = (22, sLn i))) = true := by decide +kernel
set_option maxHeartbeats 1000000 in
/-- the world at the law's entry -/
theorem world_at {p : Program} {s : State} {m : MethodId} {meth : Method} {c : Code} (l : Launch) {b L : Nat} {xs : Nat → Int32} (C0 : lw_At p s m meth c b L xs) (tk : Nat → Nat) : ∃ w : Wd, wL w = l ∧ wB w = s.heap.size ∧ adr w 32 = b ∧ KU w s ∧ Sim w s s.heap (pq (0, L, tk, none) 33 0 (s0 xs) nR) := by
  obtain ⟨hx, hb, hr, hml, hown, hts, hX, hbl, hlk, hgv⟩ := C0
  have hf : ∀ c ∈ flw, c.before #[Value.ref b] s = true := flat_of_before _ hgv
  have hA : ∀ a : Nat, a < s.heap.size → ¬ (s.heap.size ≤ a) := fun a h => by omega
  have h1 : ∀ i : Nat, ∃ q : Nat × Nat, i < 16 → stO i q #[Value.ref b] s (fun q => s.heap.size ≤ q) := fun i => by
    by_cases hi : i < 16
    · obtain ⟨q, hq⟩ := st_one hf hA hi
      exact ⟨q, fun _ => hq⟩
    · exact ⟨(0, 0), fun h => absurd h hi⟩
  obtain ⟨ad, had⟩ := Classical.axiomOfChoice h1
  have h2 : ∀ ci : Nat, ∃ q : ClassId × (Nat → Nat), ci < 12 → u_Kn s (cN ci) (fT (cF ci)) (cF ci).length q.1 q.2 := fun ci => by
    by_cases hc : ci < 12
    · obtain ⟨u1, u2, u3, u4, u5⟩ := ct_use hc
      obtain ⟨cC, iS, hk⟩ := u_known (ws := lw_tbl) hts (fun w hw => lok_tbl (u1 w hw)) (hts _ (lok_tbl u4))
      exact ⟨(cC, iS), fun _ => hk⟩
    · exact ⟨(0, fun _ => 0), fun h => absurd h hc⟩
  obtain ⟨cs, hcs⟩ := Classical.axiomOfChoice h2
  have hz1 : va_Z "java/lang/String" "COMPACT_STRINGS" "Z" (.int 1) (fun q => s.heap.size ≤ q) s s.heap := va_Zof (hts _ (by decide +kernel)) (hts _ (by decide +kernel)) (va_eqi (hf _ (by decide +kernel))) hA
  have hz2 : ∃ o : Option Nat, va_Z "jdk/internal/util/Preconditions" "SIOOBE_FORMATTER" "Ljava/util/function/BiFunction;" (rv o) (fun q => s.heap.size ≤ q) s s.heap := by
    rcases va_Zqof (A := fun q => s.heap.size ≤ q) (hts (.laysStatic "jdk/internal/util/Preconditions" "SIOOBE_FORMATTER" "Ljava/util/function/BiFunction;") (by decide +kernel)) (hts _ (by decide +kernel)) (hf _ (by decide +kernel)) hA with h | ⟨t, h⟩
    · exact ⟨none, h⟩
    · exact ⟨some t, h⟩
  obtain ⟨fo, hz2⟩ := hz2
  refine ⟨(l, s.heap.size, s.heap, (fun i => if i < 16 then (ad i).1 else if i < 32 then (ad (i - 16)).2 else b), (fun ci => (cs ci).1), (fun ci => (cs ci).2), fo), rfl, rfl, rfl, ⟨fun ci hc => hcs ci hc, fun x hx => ?_, fun e he => ?_, fun i hi => ?_, hz1, hz2⟩, ?_⟩
  · have h := List.all_eq_true.mp nxw_tb x hx
    exact nxw_A x hx _ s (hts x (of_decide_eq_true h))
  · have h := List.all_eq_true.mp srw_ok e he
    unfold srw at h
    simp only [Bool.and_eq_true, Bool.or_eq_true, decide_eq_true_eq] at h
    obtain ⟨⟨g1, g2⟩, g3⟩ := h
    have q1 := (had e.2.2.2 g2).1
    have ea : wA (l, s.heap.size, s.heap, (fun i => if i < 16 then (ad i).1 else if i < 32 then (ad (i - 16)).2 else b), (fun ci => (cs ci).1), (fun ci => (cs ci).2), fo) e.2.2.2 = (ad e.2.2.2).1 := if_pos g2
    rw [ea]
    rcases g3 with ⟨g4, g5⟩ | g4
    · refine vk_R.of (hts _ g1) ?_
      rw [g4, g5]; exact q1
    · exact vk_R.of (hts _ g1) (eqR (hf _ g4) q1)
  · have ea : wA (l, s.heap.size, s.heap, (fun i => if i < 16 then (ad i).1 else if i < 32 then (ad (i - 16)).2 else b), (fun ci => (cs ci).1), (fun ci => (cs ci).2), fo) i = (ad i).1 := if_pos hi
    have eb : wA (l, s.heap.size, s.heap, (fun i => if i < 16 then (ad i).1 else if i < 32 then (ad (i - 16)).2 else b), (fun ci => (cs ci).1), (fun ci => (cs ci).2), fo) (16 + i) = (ad i).2 := by
      show (if 16 + i < 16 then _ else if 16 + i < 32 then _ else _) = _
      rw [if_neg (by omega), if_pos (by omega), Nat.add_sub_cancel_left]
    rw [ea, eb]
    exact ⟨(had i hi).2.1, (had i hi).2.2.1, (had i hi).2.2.2.1⟩
  · refine ⟨Nat.le_refl _, rfl, fun r r1 r2 => ?_, fun _ _ => rfl, fun i hi => ?_⟩
    · have r2 : r < 33 := r2
      by_cases q : r = 32
      · subst q
        obtain ⟨scr, x1, x2, x3, x4, x5⟩ := hX
        refine ⟨scr, x1, Or.inr ⟨by show 20 ≤ 20; decide, by show 20 < 26; decide, x2, x3, szo_of x4, fun z => absurd z (show ¬ 20 = 25 by decide), fun j hj => ?_⟩⟩
        exact x5 j hj
      · obtain ⟨i, rfl⟩ : ∃ i, r = 16 + i := ⟨r - 16, by omega⟩
        have hi : i < 16 := by omega
        obtain ⟨cell, t1, t2, t3, t4, t5, t6, -⟩ := (had i hi).2.2.2.2
        have hk : hK (pq (0, L, tk, none) 33 0 (s0 xs) nR) (16 + i) = (22, sLn i) := (K0_at (c := (0, L, tk, none)) (by rw [show Nat.blt (16 + i) 213 = true from Nat.ble_eq_true_of_le (by omega)]; cases hb : Nat.beq (16 + i) 32 with | false => rfl | true => exact absurd (Nat.eq_of_beq_eq_true hb) (by omega))).trans (of_decide_eq_true (List.all_eq_true.mp tK_b i (List.mem_range.mpr hi)))
        have ad2 : adr (l, s.heap.size, s.heap, (fun i => if i < 16 then (ad i).1 else if i < 32 then (ad (i - 16)).2 else b), (fun ci => (cs ci).1), (fun ci => (cs ci).2), fo) (16 + i) = (ad i).2 := by
          show (if 16 + i < 33 then (if 16 + i < 16 then _ else if 16 + i < 32 then _ else _) else _) = _
          rw [if_pos (by omega), if_neg (by omega), if_pos (by omega), Nat.add_sub_cancel_left]
        refine ⟨cell, by rw [ad2]; exact t1, Or.inr ?_⟩
        rw [hk]
        refine ⟨by show 20 ≤ 22; decide, by show 22 < 26; decide, t2, t3, ⟨fun z => absurd z (by omega), t4, t5⟩, fun z => absurd z (show ¬ 22 = 25 by decide), fun j hj => ?_⟩
        rw [t6 j hj]
        show _ = some (Value.int (if 16 + i < 16 then 0 else if 16 + i < 32 then (sBy.getD (16 + i - 16) []).getD j 0 else if 16 + i = 32 then xs j else 0))
        rw [if_neg (by omega), if_pos (by omega), Nat.add_sub_cancel_left]
    · show (if i < 16 then (ad i).1 else if i < 32 then (ad (i - 16)).2 else b) < s.heap.size
      by_cases h1 : i < 16
      · rw [if_pos h1]
        obtain ⟨cell, o1, -⟩ := (had i h1).2.1
        exact (Array.getElem?_eq_some_iff.mp o1).1
      · rw [if_neg h1]
        by_cases h2 : i < 32
        · rw [if_pos h2]
          obtain ⟨cell, o1, -⟩ := (had (i - 16) (by omega)).2.2.2.2
          exact (Array.getElem?_eq_some_iff.mp o1).1
        · rw [if_neg h2]; exact hbl
/-- from the entry to the end, out of what is still wanting: the rule for rows of rows, the calls -/
theorem whole_of {p : Program} {e : Env} {s : State} {m : MethodId} {below : List Frame} {meth : Method} {c : Code} (l : Launch) {b L : Nat} {xs : Nat → Int32} (hL : L ≤ 2560) (C0 : lw_At p s m meth c b L xs) (hnm : meth.name = "law") {Inv : cx → hs → Prop} {D : Nat} (hD : D ≤ 2000) (tk : Nat → Nat) (hM : ∀ w : Wd, wL w = l → MAr w) (hst : ∀ w : Wd, wL w = l → LawSt w D Inv) (hI : Inv (0, L, tk, none) (eS (s0 xs))) :
    W p l e room_1 s m #[Value.ref b] below meth c s.heap [] 0 0 (lw_Z below #[Value.ref b] s) (entryFrame m ([Value.ref b] : List Value).toArray 4) := by
  obtain ⟨w, w1, w2, w3, hKU, hS⟩ := world_at l C0 tk
  obtain ⟨hx, hb, hr, hml, hown, hts, hX, hbl, hlk, hgv⟩ := C0
  have C : Cx w m_law p s m #[Value.ref b] meth c := ⟨hx, hb, hml, hown, fun x h => hts x (lok_tbl h), hr, hlk, hnm, hKU⟩
  have K : JL w p e s m b below meth c 0 [some (.ref 32), none, none, none] [] (pq (0, L, tk, none) 33 0 (s0 xs) nR) :=
    lw_begin C (hM w w1) s0_Z (lw_loop C w2 hD (hst w w1) (L + 1) 0 (0, L, tk, none) (eS (s0 xs)) hI (Nat.le_refl _) (Nat.zero_le _) hL (by show L < 5 * 0 + (L + 1); omega))
  have hl := lv_entry ([Value.ref b]) (n := 4) (show 1 ≤ 4 from Nat.le_of_ble_eq_true rfl)
  rw [lg_entry_eq]
  generalize (lg_sl [Value.ref b] ++ List.replicate (4 - (lg_sl [Value.ref b]).length) Slot.unset).toArray = ls at hl ⊢
  have := K s.heap [] ls hS ⟨hl.1, hl.2.1, fun i v hv => ?_⟩ (fun q hq => absurd hq (List.not_mem_nil)) ⟨Nat.le_refl _, Nat.le_of_ble_eq_true rfl⟩ ⟨Nat.le_refl _, Nat.le_of_ble_eq_true rfl⟩
  · rw [w1] at this
    exact this
  · match i, hv with
    | 0, hv =>
      cases hv
      have := hl.2.2 (0, Value.ref b) List.mem_cons_self
      rw [show cv w (Value.ref 32) = Value.ref b from congrArg Value.ref w3]
      exact this
    | 1, hv => cases hv
    | 2, hv => cases hv
    | 3, hv => cases hv
    | i + 4, hv => cases hv
