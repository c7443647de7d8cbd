/-! Calls of inherited and of overriding methods, and of the superclass's own. -/
theorem gin {ws : List Cond} (h : ∀ x ∈ ws, x ∈ lw_ok) : GoodIn lw_ok ws := fun x hx => ⟨h x hx, good_of_word (List.mem_filter.mp (h x hx)).2⟩
def KUv (own : String) (idx : Nat) (C : String) (x : MethodName) (o y : Mt) (n : Nat) : Prop := (⟨o.1.cls, x.name, x.desc⟩ : MethodName) = o.1 ∧ Cond.methodLink own idx x ∈ lw_ok ∧ Cond.sameMethod x.cls o.1.cls x.name x.desc ∈ lw_ok ∧ Cond.instanceMethod o.1 ∈ lw_ok ∧ Cond.selects C x y.1 ∈ lw_ok ∧ Cond.instanceMethod y.1 ∈ lw_ok ∧ KM o n ∧ KM y n
def KSup (own : String) (idx : Nat) (x : MethodName) (o : Mt) (n : Nat) : Prop := (⟨o.1.cls, x.name, x.desc⟩ : MethodName) = o.1 ∧ Cond.methodLink own idx x ∈ lw_ok ∧ Cond.sameMethod x.cls o.1.cls x.name x.desc ∈ lw_ok ∧ Cond.superclass own x.cls ∈ lw_ok ∧ (x.cls = o.1.cls ∨ Cond.superclass x.cls o.1.cls ∈ lw_ok) ∧ Cond.instanceMethod o.1 ∈ lw_ok ∧ x.name ≠ "<init>" ∧ KM o n
section
variable {p : Program} {l : Launch} {e : Env} {R : Room} {s : State} {m : MethodId} {args : Array Value} {below : List Frame} {meth : Method} {c : Code} {H : Heap} {locs : List Loc} {cells slots : Nat}
theorem runSup {x y : MethodName} {bytes cc : ByteArray} {maxL nL mc ms n index : Nat} {ret : Option FieldType} {ws : List Cond} {rm : Room} {Pc : Array Value → State → Prop} {Qc : Array Value → State → Outcome → State → Prop} {free : Addr → Prop} {Ts : List Cond} {own C : String} {b : Addr} {As rest : List Value} {g : JFrame}
    (S : CallFix p m c cc nL s args Ts own) (hM : Met l y ws rm Pc Qc mc ms free) (hrc : rm.cells = mc) (hrs : rm.slots = ms) (hfr : rm.frames + 1 ≤ R.frames) (hlo : 8 + (maxL + 11) + rm.locals ≤ R.locals) (hws : ∀ w ∈ ws, ∀ (a' : Array Value) (U : State), s.WarmedH U.vm → w.before a' U = true) (hcw : Cond.code y bytes maxL ret ∈ ws)
    (hxy : (⟨y.cls, x.name, x.desc⟩ : MethodName) = y) (hlink : (Cond.methodLink own index x).before args s = true) (hsame : (Cond.sameMethod x.cls y.cls x.name x.desc).before args s = true) (hsup : (Cond.superclass own x.cls).before args s = true) (hsup2 : x.cls = y.cls ∨ (Cond.superclass x.cls y.cls).before args s = true) (hinst : (Cond.instanceMethod y).before args s = true) (hini : (Cond.initialized y.cls).before args s = true) (hcode : (Cond.code y bytes maxL ret).before args s = true) (hno : x.name ≠ "<init>") (hlen : ∀ sig, parseMethodDescriptor y.desc = some sig → n = sig.parameters.length)
    (hp : PreV s H C b Pc As) (hg : g.method = m) (hn : As.length = n) (hsize : g.locals.size = nL) (hstack : g.stack = As.reverse ++ .ref b :: rest) (hW : 2 * g.monitorRoom + (rest.map fun v => v.category).sum ≤ 8) (hdg : decode cc g.pc = .ok (.invokespecial index, 3)) (hf : cells + mc ≤ R.cells ∧ slots + ms ≤ R.slots) :
    va_Run p l e R s m args below meth c H locs cells slots mc ms g rest (Qc (Value.ref b :: As).toArray) (free) := by
  have hK : Back l R p e below s args y 3 8 (PreOf R mc ms Pc) (PostOf Qc mc ms free) := back_of (bytes := bytes) (maxL := maxL) (ret := ret) hM hp.1 hrc hrs hfr hlo hws hcw (fun a' U hW => word_at hW (Or.inl (by first | rfl | simp [Cond.onTables, Cond.keeps, Cond.steady])) hini)
  obtain ⟨hx, hb, hml, ho, -⟩ := S
  obtain ⟨-, ⟨cellB, hcB, hoB, hclB⟩, hPc⟩ := hp
  obtain ⟨kB, hkB, -⟩ := Vm.findClass_spec hclB
  obtain ⟨mk, methM, hnamed, hmethM, hstM, habM⟩ := Cond.instanceMethod_spec hinst
  obtain ⟨methM', cM, hmethM', -, -, -, -, -, -, hsigM⟩ := Cond.code_spec hnamed hcode
  cases hmethM.symm.trans hmethM'
  obtain ⟨ps, dk, kp, hps, hdk, hkp, hsuper, -, -, hnid⟩ := Cond.superclass_spec ho hsup
  have hn' : s.methodNamed? ⟨y.cls, x.name, x.desc⟩ = some mk := by rw [hxy]; exact hnamed
  have hsub : s.vm.isSubclass ps mk.cls = true := by
    have hyc := findClass_of_methodNamed hnamed
    rcases hsup2 with e | h2
    · rw [e] at hps
      have hpm : ps = mk.cls := Option.some.inj (hps.symm.trans hyc)
      rw [hpm]; simp [Vm.isSubclass, Vm.isSubclassAux]
    · obtain ⟨ps2, dk2, kp2, hps2, hdk2, hkp2, hsuper2, -, -, -⟩ := Cond.superclass_spec hps h2
      have hpm : ps2 = mk.cls := Option.some.inj (hps2.symm.trans hyc)
      rw [← hpm]
      simp [Vm.isSubclass, Vm.isSubclassAux, hdk2, hsuper2]
      refine Or.inr ?_
      have hz : 0 < s.vm.classes.size := by
        rcases Nat.eq_zero_or_pos s.vm.classes.size with z | z
        · rw [Array.getElem?_eq_none (by omega)] at hkp2; cases hkp2
        · exact z
      obtain ⟨q, hq⟩ : ∃ q, s.vm.classes.size = q + 1 := ⟨s.vm.classes.size - 1, by omega⟩
      rw [hq]; simp [Vm.isSubclassAux]
  intro T hT X
  obtain ⟨vm₁, X₁, hstep₁⟩ := X.invokespecialUp hx ho hlink hsame hn' hmethM hstM habM hno hdk hnid hps hsuper hsub (a := b) (cell := cellB) (by rw [hT]; exact hcB) (fun z h => by rw [h] at hoB; cases hoB) hkB (g := g) hg (argsL := As) (rest := rest) (hn.trans (hlen _ hsigM)) hstack (by rw [hb]; exact hdg)
  obtain ⟨v, ⟨U', l2, c2, s2⟩, X', ⟨g', mk', t, L, e1, e2, hq, h1, hL, h2, h3⟩, hsteps⟩ := hK m meth c ⟨T.setVm vm₁, locs, cells, slots⟩ { g with stack := rest } (.invokespecial index) mk (Value.ref b :: As).toArray X₁ hg (hsize.trans hml.symm) (by rw [hb]; exact hdg) hW (X₁.named hnamed) ⟨hf.1, hf.2, hPc (T.setVm vm₁) hT X₁.warmed⟩
  dsimp only [Pt.U, Pt.locs, Pt.cells, Pt.slots] at X' e1 e2 h1 h2 h3 hsteps
  subst h1; subst h2; subst h3
  exact ⟨v, (T.setVm vm₁).calling g' mk' (Value.ref b :: As).toArray, t, U', L, hT, X', hL, e1, e2, hq, fun target h => hstep₁ _ (by rw [doInvoke_state]; exact hsteps.trans h)⟩
end
section
variable {w : Wd} {d : Nat} {m y o : Mt} {g : En} {pc idx n : Nat} {L : Lc} {rest av : List Value} {h h1 : hp} {r : Option Value} {x : MethodName} {C : String}
theorem J.callU {q : Nat} (hk : KUv m.1.cls idx C x o y n) (hd : decode m.2.1 pc = .ok (.invokevirtual idx, 3)) (hq : isC h q C) (hc : Cl w d y (.ref q :: av) h r h1) (hlen : av.length = n) (hcat : (rest.map fun v => v.category).sum ≤ 8) (hle : hN h1 ≤ hN g.2.2.2 ∧ hZ h1 ≤ hZ g.2.2.2) (kk : J w (d + 1) m g (pc + 3) L (r.toList ++ rest) h1) : J w (d + 1) m g pc L (av.reverse ++ .ref q :: rest) h := by
  obtain ⟨ho, k1, k2, k3, k4, k5, ⟨o1, o2, o3, o4⟩, y1, y2, y3, y4⟩ := hk
  obtain ⟨n0, z0, r0, h0⟩ := g
  obtain ⟨c1, c2, hM⟩ := hc
  intro p e s mid args below meth c C' H locs ls hS hl hlo hn hz
  obtain ⟨hx, hb, hml, hown, hts, hr, hlk, hnm, hKU⟩ := id C'
  have hroom : (hN h - n0) + (hN h1 - hN h) ≤ hN h0 - n0 ∧ (hZ h - z0) + (hZ h1 - hZ h) ≤ hZ h0 - z0 := by
    have a1 := hn.1; have a2 := hz.1; have a3 := hle.1; have a4 := hle.2
    dsimp only at a1 a2 a3 a4
    omega
  have hds : o.1.desc = x.desc := (congrArg MethodName.desc ho).symm
  have hG : GoodIn lw_ok (va_wsO m.1.cls idx C o.1.cls x y.1 (wsM y)) := gin (by
    unfold va_wsO
    refine List.forall_mem_append.mpr ⟨List.forall_mem_cons.mpr ⟨k1, List.forall_mem_cons.mpr ⟨k2, List.forall_mem_cons.mpr ⟨by rw [ho]; exact k3, List.forall_mem_cons.mpr ⟨k4, List.forall_mem_cons.mpr ⟨k5, List.forall_mem_cons.mpr ⟨y2, fun _ z => absurd z List.not_mem_nil⟩⟩⟩⟩⟩⟩, fun z hz => (ok_in y1 z hz).1⟩)
  refine go_on (va_runU ⟨hx, hb, hml, hown, hts⟩ hM (va_cwO n hts hG rfl rfl rfl (b0 := o.2.1) (m0 := o.2.2.1) (r0 := o.2.2.2) (by rw [ho]; exact o1) ⟨o3.1, o3.2.1, by rw [← hds]; exact o3.2.2⟩ (rmD_ok y4)) (As := av.map (cv w)) (b := adr w q) ⟨Pm_blind, isC_cell hS hKU hq, Pm_at hS hKU⟩ rfl (by rw [List.length_map]; exact hlen) hl.1 (rest := rest.map (cv w)) (by rw [List.map_append, List.map_reverse]; rfl) (lv_room (by rw [catS]; exact hcat)) hd hroom) hlo fun H1 locs1 hS1 hlo1 => ?_
  have := kk p e s mid args below meth c C' H1 locs1 ls hS1 hl hlo1 ⟨Nat.le_trans hn.1 c1, hle.1⟩ ⟨Nat.le_trans hz.1 c2, hle.2⟩
  refine W.cs (show _ = hN h1 - n0 from ?_) (show _ = hZ h1 - z0 from ?_) ?_
  · have a1 := hn.1; dsimp only at a1; show (hN h - n0) + (hN h1 - hN h) = hN h1 - n0; omega
  · have a2 := hz.1; dsimp only at a2; show (hZ h - z0) + (hZ h1 - hZ h) = hZ h1 - z0; omega
  · rw [List.map_append] at this
    cases r <;> exact this
theorem J.callSU {q : Nat} (hk : KSup m.1.cls idx x y n) (hd : decode m.2.1 pc = .ok (.invokespecial idx, 3)) (hq : isC h q C) (hc : Cl w d y (.ref q :: av) h r h1) (hlen : av.length = n) (hcat : (rest.map fun v => v.category).sum ≤ 8) (hle : hN h1 ≤ hN g.2.2.2 ∧ hZ h1 ≤ hZ g.2.2.2) (kk : J w (d + 1) m g (pc + 3) L (r.toList ++ rest) h1) : J w (d + 1) m g pc L (av.reverse ++ .ref q :: rest) h := by
  obtain ⟨ho, k1, k2, k3, k4, k5, k6, y1, y2, y3, y4⟩ := hk
  obtain ⟨n0, z0, r0, h0⟩ := g
  obtain ⟨c1, c2, hM⟩ := hc
  intro p e s mid args below meth c C' H locs ls hS hl hlo hn hz
  obtain ⟨hx, hb, hml, hown, hts, hr, hlk, hnm, hKU⟩ := id C'
  have hroom : (hN h - n0) + (hN h1 - hN h) ≤ hN h0 - n0 ∧ (hZ h - z0) + (hZ h1 - hZ h) ≤ hZ h0 - z0 := by
    have a1 := hn.1; have a2 := hz.1; have a3 := hle.1; have a4 := hle.2
    dsimp only at a1 a2 a3 a4
    omega
  have hrm := rmD_ok (d := d) (mc := hN h1 - hN h) (ms := hZ h1 - hZ h) (mc' := hN h0 - n0) (ms' := hZ h0 - z0) y4
  refine go_on (runSup ⟨hx, hb, hml, hown, hts⟩ hM (bytes := y.2.1) (maxL := y.2.2.1) (ret := y.2.2.2) rfl rfl hrm.1 hrm.2 (pay_in hts (ok_in y1)) List.mem_cons_self ho (hts _ k1) (hts _ k2) (hts _ k3) (k4.imp id (fun z => hts _ z)) (hts _ k5) (hts _ y2) (hts _ y1) k6 (fun sig hsg => by
    have h2 := y3.2.2
    rw [hsg] at h2
    exact (Option.some.inj h2).symm) (As := av.map (cv w)) (b := adr w q) ⟨Pm_blind, isC_cell hS hKU hq, Pm_at hS hKU⟩ rfl (by rw [List.length_map]; exact hlen) hl.1 (rest := rest.map (cv w)) (by rw [List.map_append, List.map_reverse]; rfl) (lv_room (by rw [catS]; exact hcat)) hd hroom) hlo fun H1 locs1 hS1 hlo1 => ?_
  have := kk p e s mid args below meth c C' H1 locs1 ls hS1 hl hlo1 ⟨Nat.le_trans hn.1 c1, hle.1⟩ ⟨Nat.le_trans hz.1 c2, hle.2⟩
  refine W.cs (show _ = hN h1 - n0 from ?_) (show _ = hZ h1 - z0 from ?_) ?_
  · have a1 := hn.1; dsimp only at a1; show (hN h - n0) + (hN h1 - hN h) = hN h1 - n0; omega
  · have a2 := hz.1; dsimp only at a2; show (hZ h - z0) + (hZ h1 - hZ h) = hZ h1 - z0; omega
  · rw [List.map_append] at this
    cases r <;> exact this
end
