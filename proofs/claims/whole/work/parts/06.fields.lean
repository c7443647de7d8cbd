/-! Each instruction of a straight stretch, over the kit's rows. -/
def tyk (t : Nat) (ty : FieldType) : Bool := match t with
  | 0 => decide (ty = .int)
  | 1 => decide (ty = .long)
  | 3 => decide (ty = .boolean)
  | _ => fits ty .null && fits ty (.ref 0)
def pok (m : Mt) (k t ci : Nat) : Bool := (!(fT (cF ci) k).2.2.2 || (m.1.name == "<init>" && (fT (cF ci) k).1 == m.1.cls)) && tyk t (tyD (fT (cF ci) k).2.2.1) && (fC ci k == (if t = 3 then 0 else t))
def akG (own : String) (i a b t : Nat) : Bool := match a with
  | 30 => decide ((own, i, b) ∈ jfl) && decide (b < 2)
  | _ => FL.any fun e => e.1 == own && e.2.1 == i && e.2.2.2.1 == a && e.2.2.2.2.1 == b && e.2.2.2.2.2 == t
theorem akG_e {own : String} {i a b t : Nat} (ha : ¬ a = 30) (h : akG own i a b t = true) : (FL.any fun e => e.1 == own && e.2.1 == i && e.2.2.2.1 == a && e.2.2.2.2.1 == b && e.2.2.2.2.2 == t) = true := by
  unfold akG at h; split at h
  · exact absurd rfl ha
  · exact h
/-- what an instruction's numbers must be -/
def aok (m : Mt) (x : Ins) : Bool := match x.1 with
  | .iconst n => decide (Int32.ofInt n = lit n)
  | .bipush n => decide ((Int8.ofInt n).toInt32 = lit n)
  | .sipush n => decide ((Int16.ofInt n).toInt32 = lit n)
  | .iinc k n => decide (k < m.2.2.1) && decide (Int32.ofInt n = lit n)
  | .ldc i => match x.2.1 with
    | 0 => decide ((m.1.cls, i, x.2.2.1) ∈ cki)
    | _ => srf.any fun e => e.1 == m.1.cls && e.2.1 == i && e.2.2.2 == x.2.2.1
  | .ldc_w i => decide ((m.1.cls, i, x.2.2.1) ∈ cki)
  | .ldc2_w i => decide ((m.1.cls, i, x.2.1, x.2.2.1) ∈ ckl)
  | .istore_n k => decide (k.val < m.2.2.1)
  | .istore k => decide (k < m.2.2.1)
  | .astore_n k => decide (k.val < m.2.2.1)
  | .astore k => decide (k < m.2.2.1)
  | .lstore_n k => decide (k.val + 1 < m.2.2.1)
  | .lstore k => decide (k + 1 < m.2.2.1)
  | .getfield i => akG m.1.cls i x.2.1 x.2.2.1 x.2.2.2
  | .putfield i => (FL.any fun e => e.1 == m.1.cls && e.2.1 == i && e.2.2.2.1 == x.2.1 && e.2.2.2.2.1 == x.2.2.1) && (subs x.2.1).all (pok m x.2.2.1 x.2.2.2)
  | .getstatic i => match x.2.1 with
    | 0 => decide ((m.1.cls, i, 2) ∈ jfl)
    | _ => decide ((m.1.cls, i, 3) ∈ jfl)
  | _ => true
theorem fl_any {own : String} {i a b : Nat} (h : (FL.any fun e => e.1 == own && e.2.1 == i && e.2.2.2.1 == a && e.2.2.2.2.1 == b) = true) : ∃ (ref : String) (t : Nat), (own, i, ref, a, b, t) ∈ FL := by
  obtain ⟨⟨o, j, r, a', b', t'⟩, hm, he⟩ := List.any_eq_true.mp h
  simp only [Bool.and_eq_true, beq_iff_eq] at he
  obtain ⟨⟨⟨h1, h2⟩, h3⟩, h4⟩ := he
  subst h1; subst h2; subst h3; subst h4
  exact ⟨r, t', hm⟩
theorem fl_any2 {own : String} {i a b t : Nat} (h : (FL.any fun e => e.1 == own && e.2.1 == i && e.2.2.2.1 == a && e.2.2.2.2.1 == b && e.2.2.2.2.2 == t) = true) : ∃ (ref : String), (own, i, ref, a, b, t) ∈ FL := by
  obtain ⟨⟨o, j, r, a', b', t'⟩, hm, he⟩ := List.any_eq_true.mp h
  simp only [Bool.and_eq_true, beq_iff_eq] at he
  obtain ⟨⟨⟨⟨h1, h2⟩, h3⟩, h4⟩, h5⟩ := he
  subst h1; subst h2; subst h3; subst h4; subst h5
  exact ⟨r, hm⟩
theorem cvA {w : Wd} {x : Value} (h : (∃ r, x = .ref r) ∨ x = .null ∨ ∃ q, x = .retAddr q) : cv w x = .null ∨ ∃ r, cv w x = .ref r := by
  rcases h with ⟨r, rfl⟩ | rfl | ⟨q, rfl⟩
  · exact Or.inr ⟨_, rfl⟩
  · exact Or.inl rfl
  · show rv (wF w) = .null ∨ ∃ r, rv (wF w) = .ref r
    cases wF w with
    | none => exact Or.inl rfl
    | some r => exact Or.inr ⟨r, rfl⟩
theorem rd_eq {h h' : hp} {q : Nat} (hI' : ∀ j, hI h' q j = hI h q j) (hL' : ∀ j, hL h' q j = hL h q j) (hR' : ∀ j, hR h' q j = hR h q j) (t j : Nat) : rd t h' q j = rd t h q j := by
  unfold rd
  split
  · rw [hI']
  · rw [hL']
  · rw [hR']
/-- one own cell has changed -/
theorem Sim.upd {w : Wd} {s : State} {H H' : Heap} {h h' : hp} {r : Nat} (k : Sim w s H h) (hr : 33 ≤ r) (e2 : H'.size = H.size) (e3 : ∀ q, q ≠ adr w r → H'[q]? = H[q]?) (hn : hN h' = hN h) (hk : hK h' = hK h)
    (ho : ∀ q, q ≠ r → (∀ j, hI h' q j = hI h q j) ∧ (∀ j, hL h' q j = hL h q j) ∧ ∀ j, hR h' q j = hR h q j) (hc : cOK w s H' h' r) : Sim w s H' h' := by
  obtain ⟨k1, k2, k3, k4, k5⟩ := k
  refine ⟨by rw [hn]; exact k1, by rw [e2, hn]; exact k2, fun q q1 q2 => ?_, fun q hq => ?_, k5⟩
  · by_cases e : q = r
    · rw [e]; exact hc
    · obtain ⟨cell, c1, c2⟩ := k3 q q1 (by rw [← hn]; exact q2)
      obtain ⟨o1, o2, o3⟩ := ho q e
      refine ⟨cell, by rw [e3 _ (adr_inj k5 hr e)]; exact c1, ?_⟩
      rw [hk]
      rcases c2 with ⟨a, b, c, d, f⟩ | ⟨a, b, c, d, f, g, i⟩
      · exact Or.inl ⟨a, b, c, d, fun j hj => by rw [rd_eq o1 o2 o3]; exact f j hj⟩
      · exact Or.inr ⟨a, b, c, d, f, g, fun j hj => by rw [rd_eq o1 o2 o3]; exact i j hj⟩
  · rw [e3 q (by rw [adr_own hr]; omega)]
    exact k4 q hq
theorem set_at {cell : Cell} {i j : Nat} {v : Value} (hi : i < cell.slots.size) : (cell.setSlot i v).slots[j]? = if j = i then some v else cell.slots[j]? := by
  by_cases e : j = i
  · subst e; simp [Cell.setSlot, hi]
  · simp [Cell.setSlot, Array.getElem?_setIfInBounds, e, Ne.symm e]
/-- a place of an own array has changed -/
theorem Sim.arr {w : Wd} {s : State} {H H' : Heap} {h h' : hp} {r i : Nat} {v : Value} (k : Sim w s H h) (hr : 33 ≤ r) (hlt : r < hN h) (h20 : 20 ≤ (hK h r).1) (hi : i < (hK h r).2) {cell : Cell} (hcell : H[adr w r]? = some cell)
    (e1 : H'[adr w r]? = some (cell.setSlot i (cv w v))) (e2 : H'.size = H.size) (e3 : ∀ q, q ≠ adr w r → H'[q]? = H[q]?) (hn : hN h' = hN h) (hk : hK h' = hK h)
    (ho : ∀ q, q ≠ r → (∀ j, hI h' q j = hI h q j) ∧ (∀ j, hL h' q j = hL h q j) ∧ ∀ j, hR h' q j = hR h q j) (hv : rd (etc (hK h r).1) h' r i = v) (hj : ∀ j, j ≠ i → rd (etc (hK h r).1) h' r j = rd (etc (hK h r).1) h r j) : Sim w s H' h' := by
  refine k.upd hr e2 e3 hn hk ho ⟨_, e1, Or.inr ?_⟩
  obtain ⟨cell', c1, c2⟩ := k.2.2.1 r (by omega) hlt
  cases hcell.symm.trans c1
  rw [hk]
  rcases c2 with ⟨a, -⟩ | ⟨a, b, c, d, f, g, z⟩
  · omega
  · refine ⟨a, b, ⟨c.1, c.2⟩, d, ?_, g, fun j hj' => ?_⟩
    · exact szo_at (by simp [Cell.setSlot]) f
    · rw [set_at (Nat.lt_of_lt_of_le hi f.2.1)]
      by_cases e : j = i
      · rw [if_pos e, e, hv]
      · rw [if_neg e, hj j e]; exact z j hj'
section
variable {w : Wd} {m : Mt} {p : Program} {e : Env} {R : Room} {s : State} {mid : MethodId} {args : Array Value} {below : List Frame} {meth : Method} {c : Code} {Q : State → Prop} {n0 z0 : Nat × Nat} {pc : Nat} {L : Lc} {st : List Value} {h : hp}
theorem aload_nV {ls : Array Slot} {H : Heap} {locs : List Loc} {cells slots : Nat} {l : Launch} {rest : List Value} {v : Value} {k : Fin 4} (hv : v = .null ∨ ∃ r, v = .ref r) (hx : p.tables.exec = Jvm.exec) {cc : ByteArray} (hb : c.code = cc) (hd : decode cc pc = .ok (.aload_n k, 1)) (hl : ls[k.val]? = some (.val v))
    (kk : W p l e R s mid args below meth c H locs cells slots Q (F0 mid (pc + 1) ls (v :: rest))) : W p l e R s mid args below meth c H locs cells slots Q (F0 mid pc ls rest) := by
  rcases hv with rfl | ⟨r, rfl⟩
  · exact lv_aload_nN hx hb hd rfl hl kk
  · exact lv_aload_n hx hb hd rfl hl kk
theorem aloadV {ls : Array Slot} {H : Heap} {locs : List Loc} {cells slots : Nat} {l : Launch} {rest : List Value} {v : Value} {k : Nat} (hv : v = .null ∨ ∃ r, v = .ref r) (hx : p.tables.exec = Jvm.exec) {cc : ByteArray} (hb : c.code = cc) (hd : decode cc pc = .ok (.aload k, 2)) (hl : ls[k]? = some (.val v))
    (kk : W p l e R s mid args below meth c H locs cells slots Q (F0 mid (pc + 2) ls (v :: rest))) : W p l e R s mid args below meth c H locs cells slots Q (F0 mid pc ls rest) := by
  rcases hv with rfl | ⟨r, rfl⟩
  · exact lv_aloadN hx hb hd hl kk
  · exact lv_aload hx hb hd hl kk
/-- an own object's field is read -/
theorem so_get (C : Cx w m p s mid args meth c) {i a b t r : Nat} {ref : String} (hm : (m.1.cls, i, ref, a, b, t) ∈ FL) (hd : decode m.2.1 pc = .ok (.getfield i, 3)) {s' : List Value} (hO : okO h r a)
    (hs : JW w m p e R s mid args below meth c Q n0 z0 (pc + 3) L (rd t h r b :: s') h) : JW w m p e R s mid args below meth c Q n0 z0 pc L (.ref r :: s') h := by
  obtain ⟨hx, hb, hml, hown, hts, hr, hlk, hnm, hKU⟩ := id C
  intro H locs ls hS hl hlo hn hz
  obtain ⟨o1, o2, o3, o4⟩ := hO
  obtain ⟨cell, c1, c2⟩ := hS.2.2.1 r (by omega) o2
  rcases c2 with ⟨-, -, c3, c4, c5⟩ | ⟨c3, -⟩
  · obtain ⟨-, f2, f3, f4, f5⟩ := fl_use hm (sub_in o4 o3)
    obtain ⟨hSl, hfc, kC, hkC, hkind⟩ := hKU.1 _ o3
    obtain ⟨cf, kf, fi, f, hi, hsl⟩ := hSl b f2
    obtain ⟨u1, u2, u3, u4, u5⟩ := ct_use o3
    refine W.getf hx hb hown (hts _ f4) (cf := cf) (k := kf) (i := fi) (f := f) ?_ (u_facts hfc hkC (u_lays hts u1 f2) hi).1 c1 (by rw [c3]; exact fun z => by cases z) (v := cv w (rd t h r b)) ?_ rfl rfl hd (hs H locs ls hS hl hlo hn hz)
    · rcases f5 with f5 | f5
      · rw [f5]; exact hi
      · exact u_same (hts _ f5) _ hi
    · rw [hsl, c5 b f2, f3]
  · omega
/-- an own object's field is written -/
theorem so_put (C : Cx w m p s mid args meth c) {i a b t t0 r : Nat} {ref : String} (hm : (m.1.cls, i, ref, a, b, t0) ∈ FL) (hpk : (subs a).all (pok m b t) = true) (hd : decode m.2.1 pc = .ok (.putfield i, 3)) {s' : List Value} {v : Value} (hO : okO h r a) {h' : hp}
    (hfit : ∀ ty : FieldType, tyk t ty = true → narrow ty (cv w v) = cv w v ∧ fits ty (cv w v) = true)
    (hn' : hN h' = hN h) (hz' : hZ h' = hZ h) (hk' : hK h' = hK h) (ho : ∀ q, q ≠ r → (∀ j, hI h' q j = hI h q j) ∧ (∀ j, hL h' q j = hL h q j) ∧ ∀ j, hR h' q j = hR h q j)
    (hv : rd (if t = 3 then 0 else t) h' r b = v) (hj : ∀ t' j, j ≠ b → rd t' h' r j = rd t' h r j)
    (hs : JW w m p e R s mid args below meth c Q n0 z0 (pc + 3) L s' h') : JW w m p e R s mid args below meth c Q n0 z0 pc L (v :: .ref r :: s') h := by
  obtain ⟨hx, hb, hml, hown, hts, hr, hlk, hnm, hKU⟩ := id C
  intro H locs ls hS hl hlo hn hz
  obtain ⟨o1, o2, o3, o4⟩ := hO
  obtain ⟨cell, c1, c2⟩ := hS.2.2.1 r (by omega) o2
  rcases c2 with ⟨-, -, c3, c4, c5⟩ | ⟨c3, -⟩
  · have hin := sub_in o4 o3
    obtain ⟨-, f2, f3, f4, f5⟩ := fl_use hm hin
    have hp := List.all_eq_true.mp hpk _ hin
    unfold pok at hp
    simp only [Bool.and_eq_true, Bool.or_eq_true, beq_iff_eq, Bool.not_eq_true'] at hp
    obtain ⟨⟨p1, p2⟩, p3⟩ := hp
    obtain ⟨hSl, hfc, kC, hkC, hkind⟩ := hKU.1 _ o3
    obtain ⟨cf, kf, fi, f, hi, hsl⟩ := hSl b f2
    obtain ⟨u1, u2, u3, u4, u5⟩ := ct_use o3
    have hlay := hts _ (u1 _ (u_in_lay f2))
    have hst := (u_facts hfc hkC (u_lays hts u1 f2) hi).1
    have hfd := hfit (tyD (fT (cF (hK h r).1) b).2.2.1) p2
    have hd1 := u2 b f2
    have hlk : s.fieldFound? ref (fT (cF (hK h r).1) b).2.1 (fT (cF (hK h r).1) b).2.2.1 = some (cf, kf, fi, f) := by
      rcases f5 with f5 | f5
      · rw [f5]; exact hi
      · exact u_same (hts _ f5) _ hi
    have hslot := c5 b f2
    have hap : ∀ x y, x < (cF (hK h r).1).length → y < (cF (hK h r).1).length → x ≠ y → wI w (hK h r).1 x ≠ wI w (hK h r).1 y := by
      intro x y hx' hy' hne
      obtain ⟨_, _, _, fa, hia, ea⟩ := hSl x hx'
      obtain ⟨_, _, _, fb, hib, eb⟩ := hSl y hy'
      rw [← ea, ← eb]
      refine u_apart (u_lays hts u1 hx') (u_lays hts u1 hy') hia hib ?_
      rw [(State.fieldFound?_type hia (u2 x hx')).1, (State.fieldFound?_type hib (u2 y hy')).1]
      exact u3 x hx' y hy' hne
    have key : ∀ H' : Heap, H'[adr w r]? = some (cell.setSlot f.slot (cv w v)) → H'.size = H.size → (∀ q, q ≠ adr w r → H'[q]? = H[q]?) → W p (wL w) e R s mid args below meth c H' (locs ++ [⟨adr w r, f.slot⟩]) (hN h - n0.1) (hZ h - z0.1) Q (F0 mid (pc + 3) ls (s'.map (cv w))) := by
      intro H' e1 e2 e3
      have hS' : Sim w s H' h' := by
        refine hS.upd o1 e2 e3 hn' hk' ho ⟨_, e1, Or.inl ?_⟩
        rw [hk']
        refine ⟨o3, o1, c3, c4, fun j hj' => ?_⟩
        rw [hsl, set_at (k2_hasslot hslot)]
        by_cases ej : j = b
        · rw [if_pos (by rw [ej]), ej, p3, hv]
        · rw [if_neg (hap j b hj' f2 ej), hj _ j ej]
          exact c5 j hj'
      have := hs H' (locs ++ [⟨adr w r, f.slot⟩]) ls hS' hl (fun q hq => by
        rcases List.mem_append.mp hq with z | z
        · exact hlo q z
        · rw [List.mem_singleton.mp z, adr_own o1]; show wB w ≤ wB w + (r - 33); omega) (by rw [hn']; exact hn) (by rw [hz']; exact hz)
      rw [hn', hz'] at this
      exact this
    unfold u_lay at hlay
    by_cases hfin : (fT (cF (hK h r).1) b).2.2.2 = true
    · rw [if_pos hfin] at hlay
      obtain ⟨p11, p12⟩ := p1.resolve_left (by rw [hfin]; exact fun z => by cases z)
      have hcf : mid.cls = cf := by
        obtain ⟨_, _, c', _, _, _, -, -, hf', -, -, -, hown2, -⟩ := Cond.laysFinal_spec hlay
        have e1 : c' = cf := by have := hi.symm.trans hf'; simp at this; exact this.1.symm
        rw [p12] at hown2
        rw [← e1]; exact Option.some.inj (hown.symm.trans hown2)
      have h6 := u_fits hfc hkC hkind (Or.inr hlay) hi hd1 hfd.1 hfd.2
      exact W.putFinK hx hb hown (hts _ f4) hlk hst hcf (by rw [hnm]; exact p11) (by rw [c4]; exact h6) c1 c3 (by rw [hsl]; exact k2_hasslot hslot) rfl rfl hd key
    · rw [if_neg hfin] at hlay
      have h6 := u_store hfc hkC hkind hlay hi hd1 hfd.1 hfd.2
      exact W.putK hx hb (f := f) ⟨hown, hts _ f4, ⟨_, _, _, hlk⟩, hst⟩ (by rw [c4]; exact h6) c1 c3 (by rw [hsl]; exact k2_hasslot hslot) rfl rfl hd key
  · omega
theorem up2_all {α : Type} {f : Nat → Nat → α} {a i : Nat} {v : α} {q : Nat} (h : q ≠ a) (j : Nat) : up2 f a i v q j = f q j := up2_o h
end

