/-! A text is put into an array of texts; the rules for a method; pictures while cells come. -/
section
variable {w : Wd} {m : Mt} {p : Program} {e : Env} {R : Room} {s : State} {mid : MethodId} {args : Array Value} {below : List Frame} {meth : Method} {c : Code} {Q : State → Prop} {n0 z0 : Nat × Nat} {pc : Nat} {L : Lc} {st : List Value} {h g : hp}
theorem JW.aastS (C : Cx w m p s mid args meth c) {r i : Nat} {j : Int32} (hi : i < 16) (hr : 33 ≤ r ∧ r < hN h ∧ (hK h r).1 = 25) (hj : inb j (hK h r).2 = true) (hd : decode m.2.1 pc = .ok (.aastore, 1)) (kk : JW w m p e R s mid args below meth c Q n0 z0 (pc + 1) L st (sR h r j.toNatClampNeg (some i))) : JW w m p e R s mid args below meth c Q n0 z0 pc L (.ref i :: .int j :: .ref r :: st) h := by
  obtain ⟨hx, hbc, hml, hown, hts, hrt, hlk, hnm, hKU⟩ := id C
  intro H locs ls hS hl hlo hn hz
  obtain ⟨r1, r2, r3⟩ := hr
  obtain ⟨cell, c1, c2⟩ := hS.2.2.1 r (by omega) r2
  rcases c2 with ⟨a, -⟩ | ⟨d1, d2, d3, d4, d5, d6, d7⟩
  · omega
  obtain ⟨kA, comp, k1, k2, k3⟩ := d6 r3
  obtain ⟨kc, kc1, -⟩ := Vm.findClass_spec k3
  obtain ⟨vc, v1, v2, v3, v4⟩ := (hKU.2.2.2.1 i hi).1
  cases k3.symm.trans v3
  have hji := inb_lt hj
  have hj0 : ¬ j < 0 := fun q => inb_in hj (Or.inl q)
  have hA := hS.2.2.2.2
  have hv : H[wA w i]? = some vc := by rw [hS.2.2.2.1 _ (hA i (by omega))]; exact v1
  have hai : adr w i = wA w i := if_pos (by omega)
  have asg : s.vm.assignable vc.cls vc.cls = true := by
    show s.vm.assignableAux (255 + 1) vc.cls vc.cls = true
    rw [Vm.assignableAux]
    simp only [beq_self_eq_true, Bool.true_or]
  have hst : (Value.ref i :: .int j :: .ref r :: st).map (cv w) = .ref (wA w i) :: .int j :: .ref (adr w r) :: st.map (cv w) := by
    show Value.ref (adr w i) :: _ = _
    rw [hai]; rfl
  rw [hst]
  refine W.aast hx hbc c1 d3.1 d4 k1 k2 rfl kc1 ⟨hj0, Nat.lt_of_lt_of_le hji d5.2.1⟩ hv (fun q hq => by rw [hq] at v2; cases v2) kc1 asg (g := F0 mid pc ls (.ref (wA w i) :: .int j :: .ref (adr w r) :: st.map (cv w))) rfl rfl hd fun H' e1 e2 e3 => ?_
  have hS' : Sim w s H' (sR h r j.toNatClampNeg (some i)) := by
    refine hS.arr (v := .ref i) r1 r2 d1 hji c1 (by rw [show cv w (.ref i) = .ref (wA w i) from congrArg Value.ref hai]; exact e1) e2 e3 rfl rfl (fun q hq => ⟨fun _ => rfl, fun _ => rfl, fun _ => up2_o hq⟩) ?_ fun k hk => ?_
    · rw [r3]; show rv (up2 (hR h) r j.toNatClampNeg (some i) r j.toNatClampNeg) = _; rw [up2_s]; rfl
    · rw [r3]; show rv (up2 (hR h) r j.toNatClampNeg (some i) r k) = rv (hR h r k); rw [up2_n hk]
  exact kk H' _ ls hS' hl (fun q hq => by
    rcases List.mem_append.mp hq with hq | hq
    · exact hlo q hq
    · cases List.mem_singleton.mp hq
      show wB w ≤ adr w r
      rw [adr_own r1]; omega) hn hz
end
section
variable {w : Wd} {d : Nat} {m : Mt} {g : En} {pc : Nat} {L : Lc} {st : List Value} {h h1 : hp}
theorem J.eqv (q : eqv h h1) (kk : J w d m g pc L st h1) : J w d m g pc L st h := fun p e s mid args below meth c C => JW.eqv q (kk p e s mid args below meth c C)
theorem J.newO {ci idx : Nat} (hci : ci < 12) (hlink : Cond.classLink m.1.cls idx (cN ci) ∈ lw_ok) (hd : decode m.2.1 pc = .ok (.new idx, 3)) (hle : hN h1 ≤ hN g.2.2.2 ∧ hZ h1 ≤ hZ g.2.2.2) (hb : born h h1 ci (cF ci).length) (kk : J w d m g (pc + 3) L (.ref (hN h) :: st) h1) : J w d m g pc L st h :=
  fun p e s mid args below meth c C => JW.newO C hci hlink hd ⟨Nat.le_refl _, Nat.le_refl _⟩ hle hb (kk p e s mid args below meth c C)
theorem J.newA {at_ : ArrayType} {k N : Nat} {n : Int32} (hk : k = 20 ∨ k = 21 ∨ k = 22) (hty : newarray.typeOf at_ = ety k) (hw : Cond.arrayClass (ety k) ∈ lw_ok) (hd : decode m.2.1 pc = .ok (.newarray at_, 2)) (hn0 : ¬ n < 0) (hnN : n.toNatClampNeg = N) (hNb : N ≤ 1000) (hle : hN h1 ≤ hN g.2.2.2 ∧ hZ h1 ≤ hZ g.2.2.2) (hb : born h h1 k N) (kk : J w d m g (pc + 2) L (.ref (hN h) :: st) h1) : J w d m g pc L (.int n :: st) h :=
  fun p e s mid args below meth c C => JW.newA C hk hty hw hd hn0 hnN hNb ⟨Nat.le_refl _, Nat.le_refl _⟩ hle hb (kk p e s mid args below meth c C)
theorem J.newS {idx N : Nat} {n : Int32} (hlink : Cond.classLink m.1.cls idx "java/lang/String" ∈ lw_ok) (hw : Cond.arrayOver (.object "java/lang/String") ∈ nxw) (hd : decode m.2.1 pc = .ok (.anewarray idx, 3)) (hn0 : ¬ n < 0) (hnN : n.toNatClampNeg = N) (hNb : N ≤ 1000) (hle : hN h1 ≤ hN g.2.2.2 ∧ hZ h1 ≤ hZ g.2.2.2) (hb : born h h1 25 N) (kk : J w d m g (pc + 3) L (.ref (hN h) :: st) h1) : J w d m g pc L (.int n :: st) h :=
  fun p e s mid args below meth c C => JW.newS C hlink hw hd hn0 hnN hNb ⟨Nat.le_refl _, Nat.le_refl _⟩ hle hb (kk p e s mid args below meth c C)
theorem J.objI {idx r : Nat} (hlink : Cond.methodLink m.1.cls idx Lib.objectInit ∈ lw_ok) (hd : decode m.2.1 pc = .ok (.invokespecial idx, 3)) (hcat : (st.map fun v => v.category).sum ≤ 8) (kk : J w (d + 1) m g (pc + 3) L st h) : J w (d + 1) m g pc L (.ref r :: st) h :=
  fun p e s mid args below meth c C => JW.objI C hlink hd ⟨by show 1 ≤ d + 1; omega, by show 20 ≤ 40 * (d + 1); omega⟩ hcat (kk p e s mid args below meth c C)
theorem J.aastS {r i : Nat} {j : Int32} (hi : i < 16) (hr : 33 ≤ r ∧ r < hN h ∧ (hK h r).1 = 25) (hj : inb j (hK h r).2 = true) (hd : decode m.2.1 pc = .ok (.aastore, 1)) (kk : J w d m g (pc + 1) L st (sR h r j.toNatClampNeg (some i))) : J w d m g pc L (.ref i :: .int j :: .ref r :: st) h :=
  fun p e s mid args below meth c C => JW.aastS C hi hr hj hd (kk p e s mid args below meth c C)
end
/-- a picture while cells come: n cells, z places, kinds as they will be, ints and longs S, references R -/
def pq (c : cx) (n z : Nat) (S : hs) (R : Nat → Nat → Option Nat) : hp := ((n, z), K0 c, S.1, S.2, R)
/-- nothing is told of what is not yet there -/
def Zb (n : Nat) (S : hs) (R : Nat → Nat → Option Nat) : Prop := ∀ r, n ≤ r → ∀ j, S.1 r j = 0 ∧ S.2 r j = 0 ∧ R r j = none
theorem Zb.up {n n' : Nat} {S : hs} {R : Nat → Nat → Option Nat} (k : Zb n S R) (h : n ≤ n') : Zb n' S R := fun r hr j => k r (Nat.le_trans h hr) j
theorem Zb.R {n a i : Nat} {v : Option Nat} {S : hs} {R : Nat → Nat → Option Nat} (k : Zb n S R) (h : a < n) : Zb n S (up2 R a i v) := fun r hr j => ⟨(k r hr j).1, (k r hr j).2.1, by rw [up2_o (by omega)]; exact (k r hr j).2.2⟩
theorem Zb.I {n a i : Nat} {v : Int32} {S : hs} {R : Nat → Nat → Option Nat} (k : Zb n S R) (h : a < n) : Zb n (uI S a i v) R := fun r hr j => ⟨by show up2 S.1 a i v r j = 0; rw [up2_o (by omega)]; exact (k r hr j).1, (k r hr j).2⟩
theorem pq_born {c : cx} {n z k l : Nat} {S : hs} {R : Nat → Nat → Option Nat} (hZ' : Zb n S R) (hK' : K0 c n = (k, l)) : born (pq c n z S R) (pq c (n + 1) (z + l) S R) k l :=
  ⟨rfl, rfl, hK', hZ' n (Nat.le_refl _), fun _ _ => ⟨rfl, fun _ => ⟨rfl, rfl, rfl⟩⟩⟩
