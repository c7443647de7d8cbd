/-! New cells: objects and arrays come, blank. -/
def born (h g : hp) (k n : Nat) : Prop := hN g = hN h + 1 ∧ hZ g = hZ h + n ∧ hK g (hN h) = (k, n) ∧ (∀ j, hI g (hN h) j = 0 ∧ hL g (hN h) j = 0 ∧ hR g (hN h) j = none) ∧ ∀ r, r < hN h → hK g r = hK h r ∧ ∀ j, hI g r j = hI h r j ∧ hL g r j = hL h r j ∧ hR g r j = hR h r j
/-- two pictures that tell the same of what lives -/
def eqv (h g : hp) : Prop := hN g = hN h ∧ hZ g = hZ h ∧ ∀ r, r < hN h → hK g r = hK h r ∧ ∀ j, hI g r j = hI h r j ∧ hL g r j = hL h r j ∧ hR g r j = hR h r j
theorem cOK.same {w : Wd} {U : State} {H : Heap} {h g : hp} {r : Nat} (hk : hK g r = hK h r ∧ ∀ j, hI g r j = hI h r j ∧ hL g r j = hL h r j ∧ hR g r j = hR h r j) (k : cOK w U H h r) : cOK w U H g r := by
  obtain ⟨hk, he⟩ := hk
  obtain ⟨cell, h1, h2⟩ := k
  have q : ∀ t j, rd t g r j = rd t h r j := rd_eq (fun j => (he j).1) (fun j => (he j).2.1) (fun j => (he j).2.2)
  refine ⟨cell, h1, ?_⟩
  rw [hk]
  rcases h2 with ⟨a, b, c, d, f⟩ | ⟨a, b, c, d, f, g', i⟩
  · exact Or.inl ⟨a, b, c, d, fun j hj => by rw [q]; exact f j hj⟩
  · exact Or.inr ⟨a, b, c, d, f, g', fun j hj => by rw [q]; exact i j hj⟩
theorem Sim.eqv {w : Wd} {s : State} {H : Heap} {h g : hp} (S : Sim w s H h) (q : eqv h g) : Sim w s H g := by
  obtain ⟨k1, k2, k3, k4, k5⟩ := S
  obtain ⟨q1, q2, q3⟩ := q
  exact ⟨by rw [q1]; exact k1, by rw [q1]; exact k2, fun r r1 r2 => (k3 r r1 (by rw [← q1]; exact r2)).same (q3 r (by rw [← q1]; exact r2)), k4, k5⟩
theorem Sim.born {w : Wd} {s : State} {H H' : Heap} {h g : hp} {k n : Nat} (S : Sim w s H h) (b : born h g k n) (e2 : H'.size = H.size + 1) (e3 : ∀ q, q < H.size → H'[q]? = H[q]?) (hc : cOK w s H' g (hN h)) : Sim w s H' g := by
  obtain ⟨k1, k2, k3, k4, k5⟩ := S
  obtain ⟨b1, b2, b3, b4, b5⟩ := b
  refine ⟨by omega, by omega, fun r r1 r2 => ?_, fun q hq => by rw [e3 q (by omega)]; exact k4 q hq, k5⟩
  by_cases e : r = hN h
  · rw [e]; exact hc
  · have hr : r < hN h := by omega
    refine cOK.kept (e3 _ ?_) ((k3 r r1 hr).same (b5 r hr))
    unfold adr
    split
    · have := k5 r (by assumption); omega
    · omega
def dvt (t : Nat) : Value := match t with
  | 0 => .int 0
  | 1 => .long 0
  | _ => .null
theorem dvt_rd {w : Wd} {g : hp} {r j : Nat} (t : Nat) (h : hI g r j = 0 ∧ hL g r j = 0 ∧ hR g r j = none) : cv w (rd t g r j) = dvt t := by
  obtain ⟨h1, h2, h3⟩ := h
  match t with
  | 0 => show cv w (.int (hI g r j)) = .int 0; rw [h1]; rfl
  | 1 => show cv w (.long (hL g r j)) = .long 0; rw [h2]; rfl
  | t + 2 => show cv w (rv (hR g r j)) = .null; rw [h3]; rfl
theorem ct_dv : ((List.range 12).all fun ci => (List.range (cF ci).length).all fun k => decide (defaultValue (tyD (fT (cF ci) k).2.2.1) = dvt (fC ci k))) = true := by decide +kernel
theorem ct_dvt {ci k : Nat} (h : ci < 12) (hk : k < (cF ci).length) : defaultValue (tyD (fT (cF ci) k).2.2.1) = dvt (fC ci k) :=
  of_decide_eq_true (List.all_eq_true.mp (List.all_eq_true.mp ct_dv ci (List.mem_range.mpr h)) k (List.mem_range.mpr hk))
section
variable {w : Wd} {m : Mt} {p : Program} {e : Env} {R : Room} {s : State} {mid : MethodId} {args : Array Value} {below : List Frame} {meth : Method} {c : Code} {Q : State → Prop} {n0 z0 : Nat × Nat} {pc : Nat} {L : Lc} {st : List Value} {h g : hp}
theorem JW.eqv (q : eqv h g) (kk : JW w m p e R s mid args below meth c Q n0 z0 pc L st g) : JW w m p e R s mid args below meth c Q n0 z0 pc L st h := by
  intro H locs ls hS hl hlo hn hz
  obtain ⟨q1, q2, q3⟩ := id q
  have := kk H locs ls (hS.eqv q) hl hlo (by rw [q1]; exact hn) (by rw [q2]; exact hz)
  rw [q1, q2] at this
  exact this
theorem JW.newO (C : Cx w m p s mid args meth c) {ci idx : Nat} (hci : ci < 12) (hlink : Cond.classLink m.1.cls idx (cN ci) ∈ lw_ok) (hd : decode m.2.1 pc = .ok (.new idx, 3)) (hRc : n0.2 - n0.1 ≤ R.cells ∧ z0.2 - z0.1 ≤ R.slots) (hle : hN g ≤ n0.2 ∧ hZ g ≤ z0.2)
    (hb : born h g ci (cF ci).length) (kk : JW w m p e R s mid args below meth c Q n0 z0 (pc + 3) L (.ref (hN h) :: st) g) : JW w m p e R s mid args below meth c Q n0 z0 pc L st h := by
  obtain ⟨hx, hbc, hml, hown, hts, hr, hlk, hnm, hKU⟩ := id C
  intro H locs ls hS hl hlo hn hz
  obtain ⟨u1, u2, u3, u4, u5⟩ := ct_use hci
  have hK1 := hKU.1 ci hci
  obtain ⟨b1, b2, b3, b4, b5⟩ := id hb
  have hsz : adr w (hN h) = H.size := by rw [adr_own hS.1, hS.2.1]
  have a1 := hn.1; have a2 := hz.1; have a3 := hle.1; have a4 := hle.2; have a5 := hRc.1; have a6 := hRc.2
  refine W.newcK hx hbc hown (hts _ hlink) (hts _ u4) (hts _ u5) (g := F0 mid pc ls (st.map (cv w))) rfl hd (by omega) (by omega) hK1.2.1 rfl fun H' kC c1 c2 c3 c4 => ?_
  obtain ⟨cell, o1, o2, o3, o4⟩ := u_born (fun k => tyD (fT (cF ci) k).2.2.1) hts u1 hK1 c1 c2 u2
  have hS' : Sim w s H' g := hS.born hb c3 c4 ⟨cell, by rw [hsz]; exact o1, Or.inl ⟨by rw [b3]; exact hci, hS.1, o3, by rw [b3]; exact o2, fun j hj => by rw [b3] at hj ⊢; rw [dvt_rd _ (b4 j), ← ct_dvt hci hj]; exact o4 j hj⟩⟩
  have := kk H' locs ls hS' hl hlo ⟨by omega, hle.1⟩ ⟨by omega, hle.2⟩
  rw [List.map_cons, show cv w (.ref (hN h)) = .ref H.size from congrArg Value.ref hsz] at this
  exact W.cs (by omega) (by omega) this
theorem JW.newA (C : Cx w m p s mid args meth c) {at_ : ArrayType} {k N : Nat} {n : Int32} (hk : k = 20 ∨ k = 21 ∨ k = 22) (hty : newarray.typeOf at_ = ety k) (hw : Cond.arrayClass (ety k) ∈ lw_ok) (hd : decode m.2.1 pc = .ok (.newarray at_, 2)) (hn0 : ¬ n < 0) (hnN : n.toNatClampNeg = N) (hNb : N ≤ 1000) (hRc : n0.2 - n0.1 ≤ R.cells ∧ z0.2 - z0.1 ≤ R.slots) (hle : hN g ≤ n0.2 ∧ hZ g ≤ z0.2)
    (hb : born h g k N) (kk : JW w m p e R s mid args below meth c Q n0 z0 (pc + 2) L (.ref (hN h) :: st) g) : JW w m p e R s mid args below meth c Q n0 z0 pc L (.int n :: st) h := by
  obtain ⟨hx, hbc, hml, hown, hts, hr, hlk, hnm, hKU⟩ := id C
  intro H locs ls hS hl hlo hn hz
  obtain ⟨b1, b2, b3, b4, b5⟩ := id hb
  have hsz : adr w (hN h) = H.size := by rw [adr_own hS.1, hS.2.1]
  have a1 := hn.1; have a2 := hz.1; have a3 := hle.1; have a4 := hle.2; have a5 := hRc.1; have a6 := hRc.2
  have hcb : componentBytes (newarray.typeOf at_) ≤ 8 := by rw [hty]; rcases hk with rfl | rfl | rfl <;> decide
  have hbts : N * componentBytes (newarray.typeOf at_) ≤ 536870912 := Nat.le_trans (Nat.mul_le_mul hNb hcb) (by decide)
  refine W.newaK hx hbc (by rw [hty]; exact hts _ hw) (g := F0 mid pc ls (.int n :: st.map (cv w))) rfl hd rfl hn0 hnN hbts (by omega) (by omega) rfl fun H' cA c1 c2 c3 c4 => ?_
  have hS' : Sim w s H' g := hS.born hb c2 c3 ⟨_, by rw [hsz]; exact c1, Or.inr ⟨by rw [b3]; show 20 ≤ k; omega, by rw [b3]; show k < 26; omega, by rw [b3]; rw [hty] at c4 ⊢; exact c4 _ _, by simp [arrV], szo_of (by rw [b3]; simp [arrV]), fun q => by rw [b3] at q; (have q : k = 25 := q); omega, fun j hj => ?_⟩⟩
  · have := kk H' locs ls hS' hl hlo ⟨by omega, hle.1⟩ ⟨by omega, hle.2⟩
    rw [List.map_cons, show cv w (.ref (hN h)) = .ref H.size from congrArg Value.ref hsz] at this
    exact W.cs (by omega) (by omega) this
  · rw [b3] at hj ⊢
    have hj : j < N := hj
    rw [dvt_rd _ (b4 j), hty]
    have : (arrV cA N (fun _ => defaultValue (ety k))).slots[j]? = some (defaultValue (ety k)) := by simp [arrV, hj]
    rw [this]
    rcases hk with rfl | rfl | rfl <;> rfl
/-- an array of texts -/
theorem JW.newS (C : Cx w m p s mid args meth c) {idx N : Nat} {n : Int32} (hlink : Cond.classLink m.1.cls idx "java/lang/String" ∈ lw_ok) (hw : Cond.arrayOver (.object "java/lang/String") ∈ nxw) (hd : decode m.2.1 pc = .ok (.anewarray idx, 3)) (hn0 : ¬ n < 0) (hnN : n.toNatClampNeg = N) (hNb : N ≤ 1000) (hRc : n0.2 - n0.1 ≤ R.cells ∧ z0.2 - z0.1 ≤ R.slots) (hle : hN g ≤ n0.2 ∧ hZ g ≤ z0.2)
    (hb : born h g 25 N) (kk : JW w m p e R s mid args below meth c Q n0 z0 (pc + 3) L (.ref (hN h) :: st) g) : JW w m p e R s mid args below meth c Q n0 z0 pc L (.int n :: st) h := by
  subst hnN
  obtain ⟨hx, hbc, hml, hown, hts, hr, hlk, hnm, hKU⟩ := id C
  intro H locs ls hS hl hlo hn hz
  obtain ⟨b1, b2, b3, b4, b5⟩ := id hb
  have hsz : adr w (hN h) = H.size := by rw [adr_own hS.1, hS.2.1]
  have a1 := hn.1; have a2 := hz.1; have a3 := hle.1; have a4 := hle.2; have a5 := hRc.1; have a6 := hRc.2
  have hwv : (Cond.arrayOver (.object "java/lang/String")).before args s = true := hKU.2.1 _ hw
  refine W.anew hx hbc hown (hts _ hlink) hwv (g := F0 mid pc ls (.int n :: st.map (cv w))) rfl hd rfl hn0 (by omega) (by omega) (by omega) fun cA kA comp d1 d2 d3 d4 => ?_
  have hS' : Sim w s (H.push { cls := cA, slots := Array.replicate n.toNatClampNeg .null, vm := .none }) g := by
    refine hS.born hb (by simp) (fun q hq => Array.getElem?_push_lt hq |>.trans (Array.getElem?_eq_getElem hq).symm) ⟨{ cls := cA, slots := Array.replicate n.toNatClampNeg .null, vm := .none }, by rw [hsz]; simp, Or.inr ⟨by rw [b3]; show 20 ≤ 25; decide, by rw [b3]; show 25 < 26; decide, ?_, by simp, szo_of (by rw [b3]; simp), fun _ => ⟨kA, comp, d2, d3, d4⟩, fun j hj => ?_⟩⟩
    · rw [b3]; exact ⟨by simp, kA, d2, comp, d3⟩
    · rw [b3] at hj ⊢
      have hj : j < n.toNatClampNeg := hj
      rw [dvt_rd _ (b4 j)]
      simp [hj]; rfl
  have := kk _ locs ls hS' hl hlo ⟨by omega, hle.1⟩ ⟨by omega, hle.2⟩
  rw [List.map_cons, show cv w (.ref (hN h)) = .ref H.size from congrArg Value.ref hsz] at this
  exact W.cs (by omega) (by omega) this
theorem JW.objI (C : Cx w m p s mid args meth c) {idx r : Nat} (hlink : Cond.methodLink m.1.cls idx Lib.objectInit ∈ lw_ok) (hd : decode m.2.1 pc = .ok (.invokespecial idx, 3)) (hR : 1 ≤ R.frames ∧ 20 ≤ R.locals) (hcat : (st.map fun v => v.category).sum ≤ 8)
    (kk : JW w m p e R s mid args below meth c Q n0 z0 (pc + 3) L st h) : JW w m p e R s mid args below meth c Q n0 z0 pc L (.ref r :: st) h := by
  obtain ⟨hx, hbc, hml, hown, hts, hr, hlk, hnm, hKU⟩ := id C
  intro H locs ls hS hl hlo hn hz
  have r1 := lv_room (m := mid) (pc := pc) (ls := ls) (rest := (.ref (adr w r) :: st.map (cv w))) (st := st.map (cv w)) (by rw [catS]; exact hcat)
  exact W.objInit hx hbc hown (hts _ hlink) (hts (.instanceMethod Lib.objectInit) (by decide +kernel)) (hts (.code Lib.objectInit ⟨#[0xb1]⟩ 1 none) (by decide +kernel)) (g := F0 mid pc ls (.ref (adr w r) :: st.map (cv w))) rfl (hl.1.trans hml.symm) rfl hd hR.1 (by have := hR.2; omega) (kk H locs ls hS hl hlo hn hz)
end
