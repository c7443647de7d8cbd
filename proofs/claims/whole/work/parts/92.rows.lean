/-! Rows of rows. -/
theorem Sim.more {w : Wd} {s : State} {H H' : Heap} {h g : hp} {c : Nat} (S : Sim w s H h) (b5 : ∀ r, r < hN h → hK g r = hK h r ∧ ∀ j, hI g r j = hI h r j ∧ hL g r j = hL h r j ∧ hR g r j = hR h r j) (b1 : hN g = hN h + c) (e2 : H'.size = H.size + c) (e3 : ∀ q, q < H.size → H'[q]? = H[q]?) (hc : ∀ r, hN h ≤ r → r < hN g → cOK w s H' g r) : Sim w s H' g := by
  obtain ⟨k1, k2, k3, k4, k5⟩ := S
  refine ⟨by omega, by omega, fun r r1 r2 => ?_, fun q hq => by rw [e3 q (by omega)]; exact k4 q hq, k5⟩
  by_cases e : hN h ≤ r
  · exact hc r e r2
  · have hr : r < hN h := by omega
    refine cOK.kept (e3 _ ?_) ((k3 r r1 hr).same (b5 r hr))
    unfold adr
    split
    · have := k5 r (by assumption); omega
    · omega
set_option maxHeartbeats 2000000 in
theorem MA_one {w : Wd} {d : Nat} {m : Mt} {g : En} {pc : Nat} {L : Lc} {st : List Value} {h h1 : hp} {idx ko ki N M : Nat} {n k : Int32} {ty : FieldType} (e1 : ety ko = .array ty) (e2 : ety ki = ty) (e3 : etc ko = 2) (hko : 20 ≤ ko ∧ ko < 25) (hki : 20 ≤ ki ∧ ki < 25) (hdv : defaultValue ty = dvt (etc ki)) (hml : ml2 ko = "[" ++ (FieldType.array ty).toString) (hdf : fits ty (defaultValue ty) = true) (hdd : (defaultValue ty).isDefault = true) (hcb : componentBytes ty ≤ 8) (hov : Cond.arrayOver (.array ty) ∈ nxw) (hac : Cond.arrayClass ty ∈ lw_ok)
    (hlink : Cond.classLink m.1.cls idx (ml2 ko) ∈ lw_ok) (hd : decode m.2.1 pc = .ok (.multianewarray idx 2, 4)) (hn0 : ¬ n < 0) (hk0 : ¬ k < 0) (hnN : n.toNatClampNeg = N) (hkM : k.toNatClampNeg = M) (hN1 : N ≤ 1000) (hM1 : M ≤ 1000) (hle : hN h1 ≤ hN g.2.2.2 ∧ hZ h1 ≤ hZ g.2.2.2) (hb : bornM h h1 ko ki N M) (kk : J w d m g (pc + 4) L (.ref (hN h) :: st) h1) : J w d m g pc L (.int k :: .int n :: st) h := by
  subst hnN; subst hkM
  obtain ⟨n0, z0, r0, h0⟩ := g
  intro p e s mid args below meth c C H locs ls hS hl hlo hn hz
  obtain ⟨hx, hbc, hml', hown, hts, hr, hlk, hnm, hKU⟩ := id C
  obtain ⟨b1, b2, b3, b4, b5⟩ := id hb
  have hsz : ∀ j, adr w (hN h + j) = H.size + j := fun j => by rw [adr_own (by have := hS.1; omega), hS.2.1]; have := hS.1; omega
  have hov' : (Cond.arrayOver (.array ty)).before args s = true := hKU.2.1 _ hov
  have a1 : n0 ≤ hN h := hn.1
  have a2 : z0 ≤ hZ h := hz.1
  have a3 : hN h1 ≤ hN h0 := hle.1
  have a4 : hZ h1 ≤ hZ h0 := hle.2
  intro T hT X
  obtain ⟨vm₁, cA, comp, hW, hfA, hfC, hO, hI', X1, step⟩ := X.multianewarray2F hx hown (by rw [← hml]; exact hts _ hlink) hov' (hts _ hac) (g := F0 mid pc ls (.int k :: .int n :: st.map (cv w))) rfl (by rw [hbc]; exact hd) (n := n) (k := k) (rest := st.map (cv w)) rfl hn0 hk0 (by omega) (Nat.le_trans (Nat.mul_le_mul hM1 hcb) (by decide)) (by omega) hdf hdd (by show (hN h - n0) + (1 + n.toNatClampNeg) ≤ hN h0 - n0; omega) (by show (hZ h - z0) + (n.toNatClampNeg + n.toNatClampNeg * k.toNatClampNeg) ≤ hZ h0 - z0; omega)
  obtain ⟨f1, f2, f3, f4⟩ := Jvm.Free.Multi.fill_facts (T.setVm vm₁) cA comp n.toNatClampNeg k.toNatClampNeg (defaultValue ty) n.toNatClampNeg
  have fo := fun (a : Addr) (ha : a < T.heap.size) => Jvm.Free.Multi.fill_old (T.setVm vm₁) cA comp n.toNatClampNeg k.toNatClampNeg (defaultValue ty) (a := a) ha n.toNatClampNeg
  have fi := fun (j : Nat) (hj : j < n.toNatClampNeg) => Jvm.Free.Multi.fill_inner (T.setVm vm₁) cA comp n.toNatClampNeg k.toNatClampNeg (defaultValue ty) n.toNatClampNeg j hj
  obtain ⟨o1, o2, o3⟩ := Jvm.Free.Multi.outerC_facts cA n.toNatClampNeg (T.setVm vm₁).heap.size n.toNatClampNeg
  have os := fun (j : Nat) (hj : j < n.toNatClampNeg) => Jvm.Free.Multi.outerC_slot cA n.toNatClampNeg (T.setVm vm₁).heap.size n.toNatClampNeg j hj
  have hTs : (T.setVm vm₁).heap.size = H.size := by rw [← hT]; rfl
  have hTh : ∀ a : Nat, (T.setVm vm₁).heap[a]? = H[a]? := fun a => by rw [← hT]; rfl
  have hO1 := hO n.toNatClampNeg (T.setVm vm₁).heap.size n.toNatClampNeg
  have hI1 := hI' k.toNatClampNeg (defaultValue ty)
  have hTT : T.heap.size = H.size := by rw [hT]
  have hS' : Sim w s (Jvm.Free.Multi.fill (T.setVm vm₁) cA comp n.toNatClampNeg k.toNatClampNeg (defaultValue ty) n.toNatClampNeg).heap h1 := by
    refine hS.more (c := 1 + n.toNatClampNeg) b5 b1 (by rw [f1, hTs]; omega) (fun q hq => (fo q (show q < T.heap.size by rw [hTT]; exact hq)).trans (hTh q)) fun r r1 r2 => ?_
    by_cases hr0 : r = hN h
    · subst hr0
      refine ⟨_, by have := hsz 0; rw [Nat.add_zero, Nat.add_zero] at this; rw [this, ← hTs]; exact f2, Or.inr ?_⟩
      rw [b3]
      refine ⟨hko.1, by have := hko.2; show ko < 26; omega, by show s.isArrayOf _ (ety ko); rw [e1]; exact hO1.1, hO1.2, szo_of o3, fun q => by (have q : ko = 25 := q); omega, fun j hj => ?_⟩
      have hj : j < n.toNatClampNeg := hj
      rw [os j hj, if_pos hj]
      show _ = some (cv w (rd (etc ko) h1 (hN h) j))
      rw [e3]
      show _ = some (cv w (rv (hR h1 (hN h) j)))
      rw [(b4 j hj).1]
      show _ = some (Value.ref (adr w (hN h + 1 + j)))
      rw [show hN h + 1 + j = hN h + (1 + j) by omega, hsz, hTs]
      congr 2
      show H.size + 1 + j = H.size + (1 + j)
      omega
    · obtain ⟨j, rfl⟩ : ∃ j, r = hN h + 1 + j := ⟨r - (hN h + 1), by omega⟩
      have hj : j < n.toNatClampNeg := by omega
      obtain ⟨c1, c2, c3⟩ := b4 j hj
      refine ⟨_, by rw [show hN h + 1 + j = hN h + (1 + j) by omega, hsz, show H.size + (1 + j) = (T.setVm vm₁).heap.size + 1 + j by omega]; exact fi j hj, Or.inr ?_⟩
      rw [c2]
      refine ⟨hki.1, by have := hki.2; show ki < 26; omega, by show s.isArrayOf _ (ety ki); rw [e2]; exact hI1.1, hI1.2, szo_of (by simp [Jvm.Free.Multi.innerC]), fun q => by (have q : ki = 25 := q); omega, fun i hi => ?_⟩
      have hi : i < k.toNatClampNeg := hi
      show (Array.replicate k.toNatClampNeg (defaultValue ty))[i]? = some (cv w (rd (etc ki) h1 (hN h + 1 + j) i))
      rw [dvt_rd _ (c3 i), hdv]
      simp [hi]
  have K := kk p e s mid args below meth c C _ locs ls hS' hl hlo ⟨by show n0 ≤ hN h1; omega, hle.1⟩ ⟨by show z0 ≤ hZ h1; omega, hle.2⟩
  have h00 := hsz 0
  rw [Nat.add_zero, Nat.add_zero] at h00
  rw [List.map_cons, show cv w (.ref (hN h)) = .ref H.size from congrArg Value.ref h00] at K
  obtain ⟨t, t1, t2⟩ := W.cs (cells := (hN h - n0) + 1 + n.toNatClampNeg) (slots := (hZ h - z0) + n.toNatClampNeg + n.toNatClampNeg * k.toNatClampNeg) (by show _ = hN h1 - n0; omega) (by show _ = hZ h1 - z0; omega) K _ rfl X1
  exact ⟨t, step t (by rw [hTT]; exact t1), t2⟩
theorem ov_i : Cond.arrayOver (.array .int) ∈ nxw := List.mem_of_getElem? (i := 1) rfl
theorem ov_l : Cond.arrayOver (.array .long) ∈ nxw := List.mem_of_getElem? (i := 7) rfl
theorem MAr_ok (w : Wd) : MAr w := by
  intro d m g pc L st h h1 idx ko ki N M n k hk hlink hd hn0 hk0 hnN hkM hN1 hM1 hle hb kk
  rcases hk with ⟨rfl, rfl⟩ | ⟨rfl, rfl⟩
  · exact MA_one (ty := .int) rfl rfl rfl (by decide) (by decide) rfl (by decide +kernel) rfl rfl (by decide) ov_i okY_20 hlink hd hn0 hk0 hnN hkM hN1 hM1 hle hb kk
  · exact MA_one (ty := .long) rfl rfl rfl (by decide) (by decide) rfl (by decide +kernel) rfl rfl (by decide) ov_l okY_21 hlink hd hn0 hk0 hnN hkM hN1 hM1 hle hb kk
