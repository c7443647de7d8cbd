/-! Rows for the methods' pictures. -/
theorem ite_t {α : Type} {p : Prop} [Decidable p] {a b z : α} (h : (if p then a else b) = z) (q : p) : a = z := by rw [if_pos q] at h; exact h
theorem ite_f {α : Type} {p : Prop} [Decidable p] {a b z : α} (h : (if p then a else b) = z) (q : ¬ p) : b = z := by rw [if_neg q] at h; exact h
theorem nz_e {y : Int32} (h : (!(decide (y = 0))) = true) : ¬ y = 0 := by simpa using h
def ushr (x y : Int32) : Int32 := (x.toUInt32 >>> (y.toUInt32 &&& Int32.toUInt32 31)).toInt32
def lushr (x : Int64) (y : Int32) : Int64 := (x.toUInt64 >>> (y.toInt64.toUInt64 &&& Int64.toUInt64 63)).toInt64
def msk : List Bool → Lc → Lc
  | b :: bs, x :: t => (bif b then x else none) :: msk bs t
  | _, _ => []
theorem msk_e : ∀ {bs : List Bool} {L : Lc} {i : Nat} {v : Value}, gL (msk bs L) i = some v → gL L i = some v
  | [], [], _, _, h => by cases h
  | [], x :: t, _, _, h => by cases h
  | b :: bs, [], _, _, h => by cases h
  | true :: bs, x :: t, 0, _, h => h
  | false :: bs, x :: t, 0, _, h => by cases h
  | b :: bs, x :: t, i + 1, _, h => msk_e (bs := bs) (L := t) h
def isN (ty : FieldType) (x : Int32) : Bool := decide (narrow ty (.int x) = .int x)
theorem isN_e {ty : FieldType} {x : Int32} (h : isN ty x = true) : narrow ty (.int x) = .int x := of_decide_eq_true h
def slen (k : Nat) : Int32 := Int32.ofNat (tK (16 + k)).2
def strs : Bool := (List.range 16).all fun k => Nat.beq (tK (16 + k)).1 22
theorem strs_ok : strs = true := by decide +kernel
theorem strK {c : cx} {S : hs} {k : Nat} (h : k < 16) : hK (mk c S) (16 + k) = tK (16 + k) := kK (by omega) (by omega)
theorem str22 {k : Nat} (h : k < 16) : (tK (16 + k)).1 = 22 := Nat.eq_of_beq_eq_true (List.all_eq_true.mp strs_ok k (List.mem_range.mpr h))
theorem okN_str {c : cx} {S : hs} {k : Nat} (h : k < 16) : okN (mk c S) (16 + k) := ⟨by omega, kN (by omega), by rw [strK h, str22 h]; decide⟩
theorem okA_str {c : cx} {S : hs} {k : Nat} {i : Int32} (h : k < 16) (hi : inb i (tK (16 + k)).2 = true) : okA (mk c S) (16 + k) 22 i := ⟨by omega, kN (by omega), by rw [strK h, str22 h], by rw [strK h]; exact inb_in hi⟩
/-- System.arraycopy of ints, from 0 to 0 -/
def cpH (h : hp) (a b N : Nat) : hp := (h.1, h.2.1, (fun r j => if r = b ∧ j < N then h.2.2.1 a j else h.2.2.1 r j), h.2.2.2)
def cpI (S : hs) (a b N : Nat) : hs := ((fun r j => if r = b ∧ j < N then S.1 a j else S.1 r j), S.2)
def ownI (h : hp) (r n : Nat) : Prop := 33 ≤ r ∧ r < hN h ∧ hK h r = (20, n)
theorem own_st {c : cx} {S : hs} {r n : Nat} (h : rws r 1 20 n = true) : ownI (mk c S) r n := by
  obtain ⟨h1, h2, h3⟩ := rws_e (c := c) (S := S) h (j := 0) (by decide)
  exact ⟨h1, h2, h3⟩
theorem own_row {c : cx} {S : hs} {b cnt n j : Nat} (h : rws b cnt 20 n = true) (hj : j < cnt) : ownI (mk c S) (b + j) n := rws_e h hj
theorem lc_A_51 : Cond.methodLink "LeftTown$Law" 51 arraycopyName ∈ lw_ok := ok_at 492 (by decide +kernel) rfl
theorem lc_T_88 : Cond.methodLink "LeftTown$Town" 88 arraycopyName ∈ lw_ok := ok_at 1051 (by decide +kernel) rfl
theorem lc_n : Cond.native arraycopyName ∈ lw_ok := ok_at 494 (by decide +kernel) rfl
theorem lc_s : Cond.static arraycopyName ∈ lw_ok := ok_at 493 (by decide +kernel) rfl
theorem lc_i : Cond.initialized "java/lang/System" ∈ lw_ok := ok_at 13 (by decide +kernel) rfl
theorem nn32 {z : Int32} (hz : ¬ z < 0) : z.toInt = (z.toNatClampNeg : Int) := by
  have hz0 : (0 : Int) ≤ z.toInt := by
    have := Int32.not_lt.mp hz
    simpa using Int32.le_iff_toInt_le.mp this
  show z.toInt = ((z.toInt.toNat : Nat) : Int)
  omega
set_option maxHeartbeats 1000000 in
theorem J.copy {w : Wd} {d : Nat} {m : Mt} {g : En} {pc idx N a b na nb : Nat} {n : Int32} {L : Lc} {rest : List Value} {h : hp} (hk : Cond.methodLink m.1.cls idx arraycopyName ∈ lw_ok) (hd : decode m.2.1 pc = .ok (.invokestatic idx, 3)) (ha : ownI h a na) (hb' : ownI h b nb) (hn0 : ¬ n < 0) (hnN : n.toNatClampNeg = N) (hNa : N ≤ na) (hNb : N ≤ nb)
    (hcat : (rest.map fun v => v.category).sum ≤ 8) (kk : J w (d + 1) m g (pc + 3) L rest (cpH h a b N)) : J w (d + 1) m g pc L (.int n :: .int 0 :: .ref b :: .int 0 :: .ref a :: rest) h := by
  subst hnN
  intro p e s mid args below meth c C H locs ls hS hl hlo hn hz
  obtain ⟨hx, hb, hml, hown, hts, hr, hlk, hnm, hKU⟩ := id C
  obtain ⟨a1, a2, a3⟩ := ha
  obtain ⟨b1, b2, b3⟩ := hb'
  obtain ⟨cs, s1, s2⟩ := hS.2.2.1 a (by omega) a2
  obtain ⟨cd, d1, d2⟩ := hS.2.2.1 b (by omega) b2
  rw [a3] at s2
  rw [b3] at d2
  rcases s2 with ⟨s3, -⟩ | ⟨-, -, s3, s4, s5, -, s6⟩
  · exact absurd s3 (show ¬ 20 < 12 by decide)
  rcases d2 with ⟨d3, -⟩ | ⟨-, -, d3, d4, d5, -, d6⟩
  · exact absurd d3 (show ¬ 20 < 12 by decide)
  obtain ⟨s7, ks, hks, cms, hkks⟩ := s3
  obtain ⟨d7, kd, hkd, cmd, hkkd⟩ := d3
  have z0 : (0 : Int32).toNatClampNeg = 0 := rfl
  have s5' : cs.slots.size = na := s5.1 (by omega)
  have d5' : cd.slots.size = nb := d5.1 (by omega)
  intro T hT X
  obtain ⟨vm', X', step⟩ := X.arraycopy hx hown (hts _ hk) (hts _ lc_n) (hts _ lc_s) (hts _ lc_i) (src := adr w a) (dst := adr w b) (cs := cs) (cd := cd) (srcPos := 0) (destPos := 0) (n := n) (by rw [hT]; exact s1) (by rw [hT]; exact d1)
    s7 d7 s4 d4 hks hkd (sType := .int) (dType := .int) hkks hkkd (by decide) (by decide) (by decide) hn0
    (by rw [nn32 hn0, s5']; show ¬ (0 : Int) + _ > _; omega)
    (by rw [nn32 hn0, d5']; show ¬ (0 : Int) + _ > _; omega)
    (fun vm₁ _ i hi => by
      have e1 : cs.slots.getD ((0 : Int32).toNatClampNeg + i) .null = .int (hI h a i) := by
        rw [z0, Nat.zero_add, Array.getD_eq_getD_getElem?, s6 i (show i < na by omega)]
        rfl
      rw [e1]
      exact ⟨rfl, trivial⟩)
    (g := F0 mid pc ls (.int n :: .int 0 :: .ref (adr w b) :: .int 0 :: .ref (adr w a) :: rest.map (cv w))) rfl (by rw [hml]; exact hl.1) (rest := rest.map (cv w)) rfl (by rw [hb]; exact hd) (by show 1 ≤ d + 1; omega)
    (by rw [catS]; show 2 * 0 + _ + _ ≤ 40 * (d + 1); have : nativeFrameWords "java/lang/System" "arraycopy" 5 + 11 ≤ 32 := by decide +kernel
        omega)
  have hsl : (cs.stretch (0 : Int32).toNatClampNeg n.toNatClampNeg).length = n.toNatClampNeg := Cell.stretch_length _ _ _
  obtain ⟨f1, f2, f3, f4, f5⟩ := Cell.storeRun_facts cd (0 : Int32).toNatClampNeg (cs.stretch (0 : Int32).toNatClampNeg n.toNatClampNeg)
  have hlt : adr w b < H.size := (Array.getElem?_eq_some_iff.mp d1).1
  have hheap : ((T.setVm vm').setCell (adr w b) (copied cs cd 0 0 n)).heap = H.setIfInBounds (adr w b) (copied cs cd 0 0 n) := by rw [← hT]; rfl
  have oq : ∀ q : Nat, q ≠ adr w b → (H.setIfInBounds (adr w b) (copied cs cd 0 0 n))[q]? = H[q]? := fun q hq => by simp [Array.getElem?_setIfInBounds, Ne.symm hq]
  have oe : (H.setIfInBounds (adr w b) (copied cs cd 0 0 n))[adr w b]? = some (copied cs cd 0 0 n) := by simp [Array.getElem?_setIfInBounds, hlt]
  have hS' : Sim w s (H.setIfInBounds (adr w b) (copied cs cd 0 0 n)) (cpH h a b n.toNatClampNeg) := by
    refine hS.upd b1 (by simp) oq rfl rfl (fun q hq => ⟨fun j => if_neg (fun z => hq z.1), fun j => rfl, fun j => rfl⟩) ⟨_, oe, Or.inr ?_⟩
    have e3 : hK (cpH h a b n.toNatClampNeg) b = (20, nb) := b3
    rw [e3]
    refine ⟨by show 20 ≤ 20; omega, by show 20 < 26; omega, ⟨by rw [f2]; exact d7, kd, by rw [f1]; exact hkd, cmd, hkkd⟩, by rw [f2]; exact d4, szo_at (show (copied cs cd 0 0 n).slots.size = cd.slots.size from f3) d5, fun z => absurd z (show ¬ 20 = 25 by decide), fun j hj => ?_⟩
    have hg := Cell.storeRun_get cd (0 : Int32).toNatClampNeg (cs.stretch (0 : Int32).toNatClampNeg n.toNatClampNeg) j (by rw [hsl, z0, d5']; omega)
    rw [hg, hsl, z0, Nat.zero_add]
    show _ = some (Value.int (if b = b ∧ j < n.toNatClampNeg then hI h a j else hI h b j))
    by_cases hjn : j < n.toNatClampNeg
    · rw [if_pos ⟨Nat.zero_le _, hjn⟩, if_pos ⟨rfl, hjn⟩]
      rw [Nat.sub_zero]
      have : (cs.stretch 0 n.toNatClampNeg)[j]? = some (.int (hI h a j)) := by
        unfold Cell.stretch
        rw [List.getElem?_map, List.getElem?_range hjn]
        show some (cs.slots.getD (0 + j) .null) = _
        rw [Nat.zero_add, Array.getD_eq_getD_getElem?, s6 j (show j < na by omega)]
        rfl
      first | exact this | (rw [this]) | simpa using this
    · rw [if_neg (fun z => hjn (by omega)), if_neg (fun z => hjn z.2)]
      exact d6 j hj
  obtain ⟨t, q1, q2⟩ := kk p e s mid args below meth c C _ _ ls hS' hl (fun q hq => by
    rcases List.mem_append.mp hq with z | z
    · exact hlo q z
    · obtain ⟨y, -, hy⟩ := List.mem_map.mp z
      rw [← hy]
      show wB w ≤ adr w b
      rw [adr_own b1]
      omega) hn hz _ hheap X'
  exact ⟨t, step t q1, q2⟩
theorem J.mask {w : Wd} {d : Nat} {m : Mt} {g : En} {pc : Nat} {L : Lc} {st : List Value} {h : hp} (bs : List Bool) (k : J w d m g pc (msk bs L) st h) : J w d m g pc L st h := J.low (fun _ _ z => msk_e z) k
