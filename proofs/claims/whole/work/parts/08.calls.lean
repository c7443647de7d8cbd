/-! Methods that run to their end, branches, calls. -/
def rmD (d mc ms : Nat) : Room := { frames := d, cells := mc, slots := ms, locals := 40 * d }
def wsM (m : Mt) : List Cond := Cond.code m.1 m.2.1 m.2.2.1 m.2.2.2 :: lw_ok
def Qm (w : Wd) (r : Option Value) (h' : hp) : Array Value → State → Outcome → State → Prop := fun _ _ o t => o = .returned (r.map (cv w)) ∧ Sim w t t.heap h'
def Pm (w : Wd) (av : List Value) (h : hp) : Array Value → State → Prop := fun v U => v = (av.map (cv w)).toArray ∧ Sim w U U.heap h ∧ KU w U
/-- what a method comes to: cells and slots at its start, its answer, the cells behind it -/
abbrev En : Type := Nat × Nat × Option Value × hp
def J (w : Wd) (d : Nat) (m : Mt) (g : En) (pc : Nat) (L : Lc) (st : List Value) (h : hp) : Prop :=
  ∀ (p : Program) (e : Env) (s : State) (mid : MethodId) (args : Array Value) (below : List Frame) (meth : Method) (c : Code), Cx w m p s mid args meth c →
    JW w m p e (rmD d (hN g.2.2.2 - g.1) (hZ g.2.2.2 - g.2.1)) s mid args below meth c (MQ below (Qm w g.2.2.1 g.2.2.2) args s (hN g.2.2.2 - g.1) (hZ g.2.2.2 - g.2.1) (fun q => wB w ≤ q)) (g.1, hN g.2.2.2) (g.2.1, hZ g.2.2.2) pc L st h
/-- a call of m on av in the cells h comes back with r and the cells h' -/
def Cl (w : Wd) (d : Nat) (m : Mt) (av : List Value) (h : hp) (r : Option Value) (h' : hp) : Prop :=
  hN h ≤ hN h' ∧ hZ h ≤ hZ h' ∧ Met (wL w) m.1 (wsM m) (rmD d (hN h' - hN h) (hZ h' - hZ h)) (Pm w av h) (Qm w r h') (hN h' - hN h) (hZ h' - hZ h) (fun q => wB w ≤ q)
def entL : List Value → Lc
  | [] => []
  | .long x :: t => some (.long x) :: none :: entL t
  | .double x :: t => some (.double x) :: none :: entL t
  | v :: t => some v :: entL t
def pad : Nat → Lc → Lc
  | 0, _ => []
  | n + 1, [] => none :: pad n []
  | n + 1, x :: t => x :: pad n t
theorem pad_e : ∀ {n : Nat} {L : Lc} {i : Nat} {v : Value}, gL (pad n L) i = some v → gL L i = some v
  | 0, _, _, _, h => by cases h
  | n + 1, [], 0, _, h => by cases h
  | n + 1, [], i + 1, _, h => by have := pad_e (n := n) (L := []) (i := i) h; cases this
  | n + 1, x :: t, 0, _, h => h
  | n + 1, x :: t, i + 1, _, h => pad_e (n := n) (L := t) h
theorem ent_e (w : Wd) : ∀ (av : List Value) {i k : Nat} {v : Value}, gL (entL av) i = some v → (k + i, cv w v) ∈ lv_args k (av.map (cv w))
  | [], _, _, _, h => by cases h
  | x :: t, i, k, v, h => by
    have key : ∀ (c : Nat), x.category = c → gL (some x :: (if c = 2 then none :: entL t else entL t)) i = some v → (k + i, cv w v) ∈ lv_args k ((x :: t).map (cv w)) := by
      intro c hc hg
      rw [List.map_cons]
      show _ ∈ (k, cv w x) :: lv_args (if (cv w x).category = 2 then k + 2 else k + 1) (t.map (cv w))
      rw [cv_cat, hc]
      cases i with
      | zero => cases hg; exact List.mem_cons_self
      | succ i =>
        refine List.mem_cons_of_mem _ ?_
        by_cases e : c = 2
        · rw [if_pos e] at hg ⊢
          cases i with
          | zero => cases hg
          | succ i =>
            have := ent_e w t (k := k + 2) (i := i) hg
            rw [show k + (i + 1 + 1) = k + 2 + i by omega]
            exact this
        · rw [if_neg e] at hg ⊢
          have := ent_e w t (k := k + 1) (i := i) hg
          rw [show k + (i + 1) = k + 1 + i by omega]
          exact this
    cases x with
    | long y => exact key 2 rfl h
    | double y => exact key 2 rfl h
    | _ => exact key 1 rfl h
theorem ent_len (w : Wd) : ∀ av : List Value, (lg_sl (av.map (cv w))).length = (entL av).length
  | [] => rfl
  | x :: t => by
    have ih := ent_len w t
    have e1 : lg_sl ((x :: t).map (cv w)) = (if (cv w x).category = 2 then [.val (cv w x), .second] else [.val (cv w x)]) ++ lg_sl (t.map (cv w)) := rfl
    rw [e1, cv_cat, List.length_append, ih]
    cases x <;> simp [entL, Value.category] <;> omega
theorem Met_ofWF {l : Launch} {y : MethodName} {ws ws' : List Cond} {rm : Room} {Pc : Array Value → State → Prop} {Qc : Array Value → State → Outcome → State → Prop} {mc ms : Nat} {free : Addr → Prop} {cc : ByteArray} {maxL : Nat} {ret : Option FieldType}
    (hy : plainFor y = true) (hw : ws = Cond.code y cc maxL ret :: ws')
    (body : ∀ p e s m args below meth c s₁, BodyLoose p l y (headSpec ws rm) cc maxL ret e s m args below meth c s₁ → c.maxLocals = maxL → Pc args s →
      W p l e (headSpec ws rm).room s m args below meth c s.heap [] 0 0 (MQ below Qc args s mc ms free) (entryFrame m args maxL)) : Met l y ws rm Pc Qc mc ms free := by
  refine MetFree.of_bodySF (code := cc) (maxLocals := maxL) (ret := ret) hy ?_ ?_
  · intro args s m h hn
    obtain ⟨meth, c, h1, h2, h3, h4, h5, h6, -, -⟩ := Cond.code_spec hn (atoms_spec (ws := ws) h _ (by rw [hw]; exact List.mem_cons_self))
    exact ⟨meth, c, h1, h2, h3, h4, h5, h6⟩
  · intro p e s m args below meth c s₁ B hml hP _
    have hh0 : s₁.heap = s.heap := by rw [B.state]; rfl
    obtain ⟨t, a1, o, b1, b2, b3⟩ := body p e s m args below meth c s₁ B hml hP s₁ hh0 (Stand.of_body B)
    exact ⟨t, o, a1, b1, b2, ⟨b3.1, b3.2⟩⟩
set_option maxHeartbeats 1000000 in
/-- a method, from its entry -/
theorem Cl.of {w : Wd} {d : Nat} {m : Mt} {av : List Value} {h h' : hp} {r : Option Value} (h1 : hN h ≤ hN h') (h2 : hZ h ≤ hZ h') (hpl : plainFor m.1 = true) (hlen : (entL av).length ≤ m.2.2.1)
    (k : J w d m (hN h, hZ h, r, h') 0 (pad m.2.2.1 (entL av)) [] h) : Cl w d m av h r h' := by
  refine ⟨h1, h2, Met_ofWF (cc := m.2.1) (maxL := m.2.2.1) (ret := m.2.2.2) hpl rfl ?_⟩
  intro p e s mid args below meth c s₁ B hml hv
  obtain ⟨rfl, hS, hK⟩ := hv
  have hts := atoms_spec (ws := wsM m) B.pre
  have hown : s.vm.findClass m.1.cls = some mid.cls := findClass_of_methodNamed B.named
  have hl := lv_entry (av.map (cv w)) (n := m.2.2.1) (by rw [ent_len]; exact hlen)
  rw [lg_entry_eq]
  generalize (lg_sl (av.map (cv w)) ++ List.replicate (m.2.2.1 - (lg_sl (av.map (cv w))).length) Slot.unset).toArray = ls at hl ⊢
  have := k p e s mid (av.map (cv w)).toArray below meth c ⟨B.exec, B.bytes, hml, hown, fun x hx => hts x (List.mem_cons_of_mem _ hx), B.returns, B.notSynchronized, (name_of_methodNamed B.named B.method).1, hK⟩ s.heap [] ls hS ⟨hl.1, hl.2.1, fun i v hv => by have := hl.2.2 _ (ent_e w av (k := 0) (pad_e hv)); rw [Nat.zero_add] at this; exact this⟩ (fun q hq => by cases hq) ⟨Nat.le_refl _, h1⟩ ⟨Nat.le_refl _, h2⟩
  simp only [Nat.sub_self] at this
  exact this
section
variable {w : Wd} {d : Nat} {m : Mt} {g : En} {pc : Nat} {L : Lc} {st : List Value} {h : hp}
theorem J.run (b : List Ins) {pc' : Nat} (hb : bok m pc b = true) (hpc : pc + bl b = pc') (hs : run b L st h (fun L' st' h1 => J w d m g pc' L' st' h1)) : J w d m g pc L st h := by
  subst hpc
  intro p e s mid args below meth c C
  exact run_ok C b hb (run_mono (fun L st h z => z p e s mid args below meth c C) b hs)
/-- fewer locals -/
theorem J.low {L' : Lc} (hL : ∀ i v, gL L' i = some v → gL L i = some v) (k : J w d m g pc L' st h) : J w d m g pc L st h :=
  fun p e s mid args below meth c C H locs ls hS hl hlo hn hz => k p e s mid args below meth c C H locs ls hS ⟨hl.1, hl.2.1, fun i v hv => hl.2.2 i v (hL i v hv)⟩ hlo hn hz
theorem J.goto {off : Int} {tgt : Nat} (hd : decode m.2.1 pc = .ok (.goto off, 3)) (ht : (pc : Int) + off = (tgt : Int)) (k : J w d m g tgt L st h) : J w d m g pc L st h :=
  fun p e s mid args below meth c C H locs ls hS hl hlo hn hz => lv_goto C.1 C.2.1 hd ht (k p e s mid args below meth c C H locs ls hS hl hlo hn hz)
theorem J.tsIn {dflt lo hi : Int} {offs : Array Int} {len : Nat} {x : Int32} {off : Int} {tgt : Nat} (hd : decode m.2.1 pc = .ok (.tableswitch dflt lo hi offs, len)) (h1 : ¬ x.toInt < lo) (h2 : ¬ hi < x.toInt) (ho : offs[(x.toInt - lo).toNat]? = some off) (ht : (pc : Int) + off = (tgt : Int)) (k : J w d m g tgt L st h) : J w d m g pc L (.int x :: st) h :=
  fun p e s mid args below meth c C H locs ls hS hl hlo hn hz => lv_tableIn C.1 C.2.1 hd h1 h2 ho ht (k p e s mid args below meth c C H locs ls hS hl hlo hn hz)
theorem J.tsOut {dflt lo hi : Int} {offs : Array Int} {len : Nat} {x : Int32} {tgt : Nat} (hd : decode m.2.1 pc = .ok (.tableswitch dflt lo hi offs, len)) (ho : x.toInt < lo ∨ hi < x.toInt) (ht : (pc : Int) + dflt = (tgt : Int)) (k : J w d m g tgt L st h) : J w d m g pc L (.int x :: st) h :=
  fun p e s mid args below meth c C H locs ls hS hl hlo hn hz => lv_tableOut C.1 C.2.1 hd ho ht (k p e s mid args below meth c C H locs ls hS hl hlo hn hz)
theorem J.lsw {dflt : Int} {ps : Array (Int × Int)} {len : Nat} {x : Int32} {off : Int} {tgt : Nat} (hd : decode m.2.1 pc = .ok (.lookupswitch dflt ps, len)) (hp : (ps.toList.zip (ps.toList.drop 1)).all (fun (a, next) => a.1 < next.1) = true) (ho : Op.lookupswitch.offset ps.toList dflt x.toInt = off) (ht : (pc : Int) + off = (tgt : Int)) (k : J w d m g tgt L st h) : J w d m g pc L (.int x :: st) h :=
  fun p e s mid args below meth c C H locs ls hS hl hlo hn hz => lv_lookup C.1 C.2.1 hd hp ho ht (k p e s mid args below meth c C H locs ls hS hl hlo hn hz)
theorem J.nnR {off : Int} {tgt x : Nat} (hd : decode m.2.1 pc = .ok (.ifnonnull off, 3)) (ht : (pc : Int) + off = (tgt : Int)) (k : J w d m g tgt L st h) : J w d m g pc L (.ref x :: st) h :=
  fun p e s mid args below meth c C H locs ls hS hl hlo hn hz => lv_ifnonnull C.1 C.2.1 hd ht (k p e s mid args below meth c C H locs ls hS hl hlo hn hz)
theorem J.nnN {off : Int} (hd : decode m.2.1 pc = .ok (.ifnonnull off, 3)) (k : J w d m g (pc + 3) L st h) : J w d m g pc L (.null :: st) h :=
  fun p e s mid args below meth c C H locs ls hS hl hlo hn hz => lv_ifnonnullN C.1 C.2.1 hd (k p e s mid args below meth c C H locs ls hS hl hlo hn hz)
theorem J.nuR {off : Int} {x : Nat} (hd : decode m.2.1 pc = .ok (.ifnull off, 3)) (k : J w d m g (pc + 3) L st h) : J w d m g pc L (.ref x :: st) h :=
  fun p e s mid args below meth c C H locs ls hS hl hlo hn hz => lv_ifnull C.1 C.2.1 hd (k p e s mid args below meth c C H locs ls hS hl hlo hn hz)
theorem J.nuN {off : Int} {tgt : Nat} (hd : decode m.2.1 pc = .ok (.ifnull off, 3)) (ht : (pc : Int) + off = (tgt : Int)) (k : J w d m g tgt L st h) : J w d m g pc L (.null :: st) h :=
  fun p e s mid args below meth c C H locs ls hS hl hlo hn hz => lv_ifnullN C.1 C.2.1 hd ht (k p e s mid args below meth c C H locs ls hS hl hlo hn hz)
theorem J.ceq {x y : Int32} {off : Int} {tgt : Nat} (hd : decode m.2.1 pc = .ok (.if_icmp .eq off, 3)) (ht : (pc : Int) + off = (tgt : Int)) (kt : x = y → J w d m g tgt L st h) (kf : ¬ x = y → J w d m g (pc + 3) L st h) : J w d m g pc L (.int y :: .int x :: st) h :=
  fun p e s mid args below meth c C H locs ls hS hl hlo hn hz => lv_icmp_eq C.1 C.2.1 hd ht (fun z => kt z p e s mid args below meth c C H locs ls hS hl hlo hn hz) (fun z => kf (z) p e s mid args below meth c C H locs ls hS hl hlo hn hz)
theorem J.zeq {x : Int32} {off : Int} {tgt : Nat} (hd : decode m.2.1 pc = .ok (.ifCond .eq off, 3)) (ht : (pc : Int) + off = (tgt : Int)) (kt : x = 0 → J w d m g tgt L st h) (kf : ¬ x = 0 → J w d m g (pc + 3) L st h) : J w d m g pc L (.int x :: st) h :=
  fun p e s mid args below meth c C H locs ls hS hl hlo hn hz => lv_if_eq C.1 C.2.1 hd ht (fun z => kt z p e s mid args below meth c C H locs ls hS hl hlo hn hz) (fun z => kf (z) p e s mid args below meth c C H locs ls hS hl hlo hn hz)
theorem J.cne {x y : Int32} {off : Int} {tgt : Nat} (hd : decode m.2.1 pc = .ok (.if_icmp .ne off, 3)) (ht : (pc : Int) + off = (tgt : Int)) (kt : ¬ x = y → J w d m g tgt L st h) (kf : x = y → J w d m g (pc + 3) L st h) : J w d m g pc L (.int y :: .int x :: st) h :=
  fun p e s mid args below meth c C H locs ls hS hl hlo hn hz => lv_icmp_ne C.1 C.2.1 hd ht (fun z => kt z p e s mid args below meth c C H locs ls hS hl hlo hn hz) (fun z => kf (z) p e s mid args below meth c C H locs ls hS hl hlo hn hz)
theorem J.zne {x : Int32} {off : Int} {tgt : Nat} (hd : decode m.2.1 pc = .ok (.ifCond .ne off, 3)) (ht : (pc : Int) + off = (tgt : Int)) (kt : ¬ x = 0 → J w d m g tgt L st h) (kf : x = 0 → J w d m g (pc + 3) L st h) : J w d m g pc L (.int x :: st) h :=
  fun p e s mid args below meth c C H locs ls hS hl hlo hn hz => lv_if_ne C.1 C.2.1 hd ht (fun z => kt z p e s mid args below meth c C H locs ls hS hl hlo hn hz) (fun z => kf (z) p e s mid args below meth c C H locs ls hS hl hlo hn hz)
theorem J.clt {x y : Int32} {off : Int} {tgt : Nat} (hd : decode m.2.1 pc = .ok (.if_icmp .lt off, 3)) (ht : (pc : Int) + off = (tgt : Int)) (kt : x < y → J w d m g tgt L st h) (kf : ¬ x < y → J w d m g (pc + 3) L st h) : J w d m g pc L (.int y :: .int x :: st) h :=
  fun p e s mid args below meth c C H locs ls hS hl hlo hn hz => lv_icmp_lt C.1 C.2.1 hd ht (fun z => kt z p e s mid args below meth c C H locs ls hS hl hlo hn hz) (fun z => kf (z) p e s mid args below meth c C H locs ls hS hl hlo hn hz)
theorem J.zlt {x : Int32} {off : Int} {tgt : Nat} (hd : decode m.2.1 pc = .ok (.ifCond .lt off, 3)) (ht : (pc : Int) + off = (tgt : Int)) (kt : x < 0 → J w d m g tgt L st h) (kf : ¬ x < 0 → J w d m g (pc + 3) L st h) : J w d m g pc L (.int x :: st) h :=
  fun p e s mid args below meth c C H locs ls hS hl hlo hn hz => lv_if_lt C.1 C.2.1 hd ht (fun z => kt z p e s mid args below meth c C H locs ls hS hl hlo hn hz) (fun z => kf (z) p e s mid args below meth c C H locs ls hS hl hlo hn hz)
theorem J.cge {x y : Int32} {off : Int} {tgt : Nat} (hd : decode m.2.1 pc = .ok (.if_icmp .ge off, 3)) (ht : (pc : Int) + off = (tgt : Int)) (kt : y ≤ x → J w d m g tgt L st h) (kf : ¬ y ≤ x → J w d m g (pc + 3) L st h) : J w d m g pc L (.int y :: .int x :: st) h :=
  fun p e s mid args below meth c C H locs ls hS hl hlo hn hz => lv_icmp_ge C.1 C.2.1 hd ht (fun z => kt z p e s mid args below meth c C H locs ls hS hl hlo hn hz) (fun z => kf (z) p e s mid args below meth c C H locs ls hS hl hlo hn hz)
theorem J.zge {x : Int32} {off : Int} {tgt : Nat} (hd : decode m.2.1 pc = .ok (.ifCond .ge off, 3)) (ht : (pc : Int) + off = (tgt : Int)) (kt : 0 ≤ x → J w d m g tgt L st h) (kf : ¬ 0 ≤ x → J w d m g (pc + 3) L st h) : J w d m g pc L (.int x :: st) h :=
  fun p e s mid args below meth c C H locs ls hS hl hlo hn hz => lv_if_ge C.1 C.2.1 hd ht (fun z => kt z p e s mid args below meth c C H locs ls hS hl hlo hn hz) (fun z => kf (z) p e s mid args below meth c C H locs ls hS hl hlo hn hz)
theorem J.cgt {x y : Int32} {off : Int} {tgt : Nat} (hd : decode m.2.1 pc = .ok (.if_icmp .gt off, 3)) (ht : (pc : Int) + off = (tgt : Int)) (kt : y < x → J w d m g tgt L st h) (kf : ¬ y < x → J w d m g (pc + 3) L st h) : J w d m g pc L (.int y :: .int x :: st) h :=
  fun p e s mid args below meth c C H locs ls hS hl hlo hn hz => lv_icmp_gt C.1 C.2.1 hd ht (fun z => kt z p e s mid args below meth c C H locs ls hS hl hlo hn hz) (fun z => kf (z) p e s mid args below meth c C H locs ls hS hl hlo hn hz)
theorem J.zgt {x : Int32} {off : Int} {tgt : Nat} (hd : decode m.2.1 pc = .ok (.ifCond .gt off, 3)) (ht : (pc : Int) + off = (tgt : Int)) (kt : 0 < x → J w d m g tgt L st h) (kf : ¬ 0 < x → J w d m g (pc + 3) L st h) : J w d m g pc L (.int x :: st) h :=
  fun p e s mid args below meth c C H locs ls hS hl hlo hn hz => lv_if_gt C.1 C.2.1 hd ht (fun z => kt z p e s mid args below meth c C H locs ls hS hl hlo hn hz) (fun z => kf (z) p e s mid args below meth c C H locs ls hS hl hlo hn hz)
theorem J.cle {x y : Int32} {off : Int} {tgt : Nat} (hd : decode m.2.1 pc = .ok (.if_icmp .le off, 3)) (ht : (pc : Int) + off = (tgt : Int)) (kt : x ≤ y → J w d m g tgt L st h) (kf : ¬ x ≤ y → J w d m g (pc + 3) L st h) : J w d m g pc L (.int y :: .int x :: st) h :=
  fun p e s mid args below meth c C H locs ls hS hl hlo hn hz => lv_icmp_le C.1 C.2.1 hd ht (fun z => kt z p e s mid args below meth c C H locs ls hS hl hlo hn hz) (fun z => kf (z) p e s mid args below meth c C H locs ls hS hl hlo hn hz)
theorem J.zle {x : Int32} {off : Int} {tgt : Nat} (hd : decode m.2.1 pc = .ok (.ifCond .le off, 3)) (ht : (pc : Int) + off = (tgt : Int)) (kt : x ≤ 0 → J w d m g tgt L st h) (kf : ¬ x ≤ 0 → J w d m g (pc + 3) L st h) : J w d m g pc L (.int x :: st) h :=
  fun p e s mid args below meth c C H locs ls hS hl hlo hn hz => lv_if_le C.1 C.2.1 hd ht (fun z => kt z p e s mid args below meth c C H locs ls hS hl hlo hn hz) (fun z => kf (z) p e s mid args below meth c C H locs ls hS hl hlo hn hz)
/-- the end of a method -/
theorem J.nret {ty : FieldType} {v : Int32} (hd : decode m.2.1 pc = .ok (.ireturn, 1)) (hr : m.2.2.2 = some ty) (hn : narrow ty (.int v) = .int v) (hg : g.2.2 = (some (.int v), h)) : J w d m g pc L [.int v] h := by
  obtain ⟨n0, z0, r, h'⟩ := g
  cases hg
  intro p e s mid args below meth c C H locs ls hS hl hlo hn' hz
  exact W.zret C.1 C.2.1 (C.2.2.2.2.2.1.trans hr) hn (fun t ht hW => ⟨rfl, by rw [ht]; exact hS.moved hW.alike⟩) hlo hd C.2.2.2.2.2.2.1
theorem J.iret {v : Int32} (hd : decode m.2.1 pc = .ok (.ireturn, 1)) (hr : m.2.2.2 = some .int) (hg : g.2.2 = (some (.int v), h)) : J w d m g pc L [.int v] h := J.nret hd hr rfl hg
theorem J.lret {v : Int64} (hd : decode m.2.1 pc = .ok (.lreturn, 1)) (hr : m.2.2.2 = some .long) (hg : g.2.2 = (some (.long v), h)) : J w d m g pc L [.long v] h := by
  obtain ⟨n0, z0, r, h'⟩ := g
  cases hg
  intro p e s mid args below meth c C H locs ls hS hl hlo hn' hz
  exact W.lret C.1 C.2.1 (C.2.2.2.2.2.1.trans hr) (fun t ht hW => ⟨rfl, by rw [ht]; exact hS.moved hW.alike⟩) hlo hd C.2.2.2.2.2.2.1
theorem J.vret (hd : decode m.2.1 pc = .ok (.return_, 1)) (hr : m.2.2.2 = none) (hg : g.2.2 = (none, h)) : J w d m g pc L [] h := by
  obtain ⟨n0, z0, r, h'⟩ := g
  cases hg
  intro p e s mid args below meth c C H locs ls hS hl hlo hn' hz
  exact W.vret C.1 C.2.1 (C.2.2.2.2.2.1.trans hr) (fun t ht hW => ⟨rfl, by rw [ht]; exact hS.moved hW.alike⟩) hlo hd C.2.2.2.2.2.2.1
theorem J.aret {v : Option Nat} {n : String} (hd : decode m.2.1 pc = .ok (.areturn, 1)) (hr : m.2.2.2 = some (.object n)) (hg : g.2.2 = (some (rv v), h)) : J w d m g pc L [rv v] h := by
  obtain ⟨n0, z0, r, h'⟩ := g
  cases hg
  intro p e s mid args below meth c C H locs ls hS hl hlo hn' hz
  exact W.aret C.1 C.2.1 (C.2.2.2.2.2.1.trans hr) (Or.inl ⟨n, rfl⟩) (by cases v with | none => exact Or.inl rfl | some q => exact Or.inr ⟨_, rfl⟩) (fun t ht hW => ⟨rfl, by rw [ht]; exact hS.moved hW.alike⟩) hlo hd C.2.2.2.2.2.2.1
end
/-! calls -/
def KM (y : Mt) (n : Nat) : Prop := Cond.code y.1 y.2.1 y.2.2.1 y.2.2.2 ∈ lw_ok ∧ Cond.initialized y.1.cls ∈ lw_ok ∧ (y.1.cls ≠ "java/lang/invoke/MethodHandle" ∧ y.1.cls ≠ "java/lang/invoke/VarHandle" ∧ (parseMethodDescriptor y.1.desc).map (fun d => d.parameters.length) = some n) ∧ y.2.2.1 ≤ 21
def KSt (own : String) (idx : Nat) (y : Mt) (n : Nat) : Prop := Cond.methodLink own idx y.1 ∈ lw_ok ∧ Cond.static y.1 ∈ lw_ok ∧ KM y n
def KSn (own : String) (idx : Nat) (y : Mt) (n : Nat) : Prop := (∃ host, Cond.methodLinkNest own idx y.1 host ∈ nxw) ∧ Cond.static y.1 ∈ lw_ok ∧ KM y n
def KVi (own : String) (idx : Nat) (y : Mt) (n : Nat) : Prop := Cond.methodLink own idx y.1 ∈ lw_ok ∧ (Cond.instanceMethod y.1 ∈ lw_ok ∧ Cond.selects y.1.cls y.1 y.1 ∈ lw_ok) ∧ KM y n
def KIn (own : String) (idx : Nat) (y : Mt) (n : Nat) : Prop := Cond.methodLink own idx y.1 ∈ lw_ok ∧ (Cond.instanceMethod y.1 ∈ lw_ok ∧ y.1.name = "<init>" ∧ y.2.2.2 = none) ∧ KM y n
def KIN (own : String) (idx : Nat) (y : Mt) (n : Nat) : Prop := (∃ host, Cond.methodLinkNest own idx y.1 host ∈ nxw) ∧ (Cond.instanceMethod y.1 ∈ lw_ok ∧ y.1.name = "<init>" ∧ y.2.2.2 = none) ∧ KM y n
theorem catS (w : Wd) (l : List Value) : ((l.map (cv w)).map fun v => v.category).sum = (l.map fun v => v.category).sum := by
  rw [List.map_map]
  congr 1
  exact List.map_congr_left fun v _ => cv_cat w v
theorem Pm_blind {w : Wd} {av : List Value} {h : hp} : FrameBlind (Pm w av h) := fun a U g mk q => ⟨q.1, Sim.moved (u := U) (U := U.calling g mk a) (Vm.Alike.refl U.vm) q.2.1, KU.warm (s := U) (U := U.calling g mk a) (State.WarmedH.refl U) q.2.2⟩
section
variable {w : Wd} {m : Mt} {p : Program} {e : Env} {R : Room} {s : State} {mid : MethodId} {args : Array Value} {below : List Frame} {meth : Method} {c : Code} {Q : State → Prop} {H : Heap} {locs : List Loc} {cells slots mc ms pc : Nat} {ls : Array Slot}
theorem Pm_at {av : List Value} {h : hp} (hS : Sim w s H h) (hK : KU w s) : ∀ U : State, U.heap = H → s.WarmedH U.vm → Pm w av h (av.map (cv w)).toArray U := fun U hU hW => ⟨rfl, by rw [hU]; exact hS.moved hW.alike, hK.warm hW⟩
/-- behind a call -/
theorem go_on {st0 rest : List Value} {r : Option Value} {h1 : hp} {a : Array Value} (hr : va_Run p (wL w) e R s mid args below meth c H locs cells slots mc ms (F0 mid pc ls st0) rest (Qm w r h1 a) (fun q => wB w ≤ q)) (hlo : ∀ q ∈ locs, wB w ≤ q.base)
    (kk : ∀ (H1 : Heap) (locs1 : List Loc), Sim w s H1 h1 → (∀ q ∈ locs1, wB w ≤ q.base) → W p (wL w) e R s mid args below meth c H1 locs1 (cells + mc) (slots + ms) Q (F0 mid (pc + 3) ls ((r.map (cv w)).toList ++ rest))) : W p (wL w) e R s mid args below meth c H locs cells slots Q (F0 mid pc ls st0) := by
  intro T hT X
  obtain ⟨v, st₀, t, T', L, h0, X', hL, e1, e2, ⟨hv, hSim⟩, st⟩ := hr T hT X
  cases hv
  obtain ⟨t2, a1, b1⟩ := kk T'.heap (locs ++ L) (by rw [e1]; exact hSim.moved (Vm.Alike.symm (by rw [← e2]; exact X'.warmed.alike))) (fun q hq => by
    rcases List.mem_append.mp hq with z | z
    · exact hlo q z
    · exact hL q z) T' rfl X'
  exact ⟨t2, st t2 a1, b1⟩
end
theorem rmD_ok {d mc ms mc' ms' : Nat} {y : Mt} (h : y.2.2.1 ≤ 21) : (rmD d mc ms).frames + 1 ≤ (rmD (d + 1) mc' ms').frames ∧ 8 + (y.2.2.1 + 11) + (rmD d mc ms).locals ≤ (rmD (d + 1) mc' ms').locals := ⟨Nat.le_refl _, by show 8 + (y.2.2.1 + 11) + 40 * d ≤ 40 * (d + 1); omega⟩
theorem cm_room {a b c n x : Nat} (h1 : a ≤ b) (h2 : b ≤ c) (h3 : c ≤ x) (h4 : n ≤ a) : (b - n) + (c - b) ≤ x - n ∧ (b - n) + (c - b) = c - n := by omega
section
variable {w : Wd} {d : Nat} {m y : Mt} {g : En} {pc idx n : Nat} {L : Lc} {rest av : List Value} {h h1 : hp} {r : Option Value}
theorem J.callS (hk : KSt m.1.cls idx y n) (hd : decode m.2.1 pc = .ok (.invokestatic idx, 3)) (hc : Cl w d y av h r h1) (hlen : av.length = n) (hcat : (rest.map fun v => v.category).sum ≤ 8) (hle : hN h1 ≤ hN g.2.2.2 ∧ hZ h1 ≤ hZ g.2.2.2) (kk : J w (d + 1) m g (pc + 3) L (r.toList ++ rest) h1) : J w (d + 1) m g pc L (av.reverse ++ rest) h := by
  obtain ⟨k1, k2, k3, k4, k5, k6⟩ := hk
  obtain ⟨n0, z0, r0, h0⟩ := g
  obtain ⟨c1, c2, hM⟩ := hc
  intro p e s mid args below meth c C H locs ls hS hl hlo hn hz
  obtain ⟨hx, hb, hml, hown, hts, hr, hlk, hnm, hKU⟩ := id C
  have hroom : (hN h - n0) + (hN h1 - hN h) ≤ hN h0 - n0 ∧ (hZ h - z0) + (hZ h1 - hZ h) ≤ hZ h0 - z0 := by
    have a1 := hn.1; have a2 := hz.1; have a3 := hle.1; have a4 := hle.2
    dsimp only at a1 a2 a3 a4
    omega
  refine go_on (va_runS ⟨hx, hb, hml, hown, hts⟩ hM ⟨callB_of n hts (ok_in k3) rfl rfl rfl (hts _ k4) (hts _ k1) k5 (rmD_ok k6), hts _ k2⟩ (As := av.map (cv w)) ⟨Pm_blind, Pm_at hS hKU⟩ rfl (by rw [List.length_map]; exact hlen) hl.1 (rest := rest.map (cv w)) (by rw [List.map_append, List.map_reverse]) (lv_room (by rw [catS]; exact hcat)) hd hroom) hlo fun H1 locs1 hS1 hlo1 => ?_
  have := kk p e s mid args below meth c C H1 locs1 ls hS1 hl hlo1 ⟨Nat.le_trans hn.1 c1, hle.1⟩ ⟨Nat.le_trans hz.1 c2, hle.2⟩
  refine W.cs (show _ = hN h1 - n0 from ?_) (show _ = hZ h1 - z0 from ?_) ?_
  · have a1 := hn.1; dsimp only at a1; show (hN h - n0) + (hN h1 - hN h) = hN h1 - n0; omega
  · have a2 := hz.1; dsimp only at a2; show (hZ h - z0) + (hZ h1 - hZ h) = hZ h1 - z0; omega
  · rw [List.map_append] at this
    cases r <;> exact this
theorem J.callSn (hk : KSn m.1.cls idx y n) (hd : decode m.2.1 pc = .ok (.invokestatic idx, 3)) (hc : Cl w d y av h r h1) (hlen : av.length = n) (hcat : (rest.map fun v => v.category).sum ≤ 8) (hle : hN h1 ≤ hN g.2.2.2 ∧ hZ h1 ≤ hZ g.2.2.2) (kk : J w (d + 1) m g (pc + 3) L (r.toList ++ rest) h1) : J w (d + 1) m g pc L (av.reverse ++ rest) h := by
  obtain ⟨⟨host, k1⟩, k2, k3, k4, k5, k6⟩ := hk
  obtain ⟨n0, z0, r0, h0⟩ := g
  obtain ⟨c1, c2, hM⟩ := hc
  intro p e s mid args below meth c C H locs ls hS hl hlo hn hz
  obtain ⟨hx, hb, hml, hown, hts, hr, hlk, hnm, hKU⟩ := id C
  have hroom : (hN h - n0) + (hN h1 - hN h) ≤ hN h0 - n0 ∧ (hZ h - z0) + (hZ h1 - hZ h) ≤ hZ h0 - z0 := by
    have a1 := hn.1; have a2 := hz.1; have a3 := hle.1; have a4 := hle.2
    dsimp only at a1 a2 a3 a4
    omega
  refine go_on (va_runSN ⟨hx, hb, hml, hown, hts⟩ hM ⟨va_cnB n hts (ok_in k3) rfl rfl rfl (hKU.2.1 _ k1) (hts _ k4) k5 (rmD_ok k6), hts _ k2, trivial⟩ (As := av.map (cv w)) ⟨Pm_blind, Pm_at hS hKU⟩ rfl (by rw [List.length_map]; exact hlen) hl.1 (rest := rest.map (cv w)) (by rw [List.map_append, List.map_reverse]) (lv_room (by rw [catS]; exact hcat)) hd hroom) hlo fun H1 locs1 hS1 hlo1 => ?_
  have := kk p e s mid args below meth c C H1 locs1 ls hS1 hl hlo1 ⟨Nat.le_trans hn.1 c1, hle.1⟩ ⟨Nat.le_trans hz.1 c2, hle.2⟩
  refine W.cs (show _ = hN h1 - n0 from ?_) (show _ = hZ h1 - z0 from ?_) ?_
  · have a1 := hn.1; dsimp only at a1; show (hN h - n0) + (hN h1 - hN h) = hN h1 - n0; omega
  · have a2 := hz.1; dsimp only at a2; show (hZ h - z0) + (hZ h1 - hZ h) = hZ h1 - z0; omega
  · rw [List.map_append] at this
    cases r <;> exact this
theorem J.callI {q : Nat} (hk : KIn m.1.cls idx y n) (hd : decode m.2.1 pc = .ok (.invokespecial idx, 3)) (hc : Cl w d y (.ref q :: av) h r h1) (hlen : av.length = n) (hcat : (rest.map fun v => v.category).sum ≤ 8) (hle : hN h1 ≤ hN g.2.2.2 ∧ hZ h1 ≤ hZ g.2.2.2) (kk : J w (d + 1) m g (pc + 3) L (r.toList ++ rest) h1) : J w (d + 1) m g pc L (av.reverse ++ .ref q :: rest) h := by
  obtain ⟨k1, ⟨k2, k7, k8⟩, k3, k4, k5, k6⟩ := hk
  obtain ⟨n0, z0, r0, h0⟩ := g
  obtain ⟨c1, c2, hM⟩ := hc
  intro p e s mid args below meth c C H locs ls hS hl hlo hn hz
  obtain ⟨hx, hb, hml, hown, hts, hr, hlk, hnm, hKU⟩ := id C
  have hroom : (hN h - n0) + (hN h1 - hN h) ≤ hN h0 - n0 ∧ (hZ h - z0) + (hZ h1 - hZ h) ≤ hZ h0 - z0 := by
    have a1 := hn.1; have a2 := hz.1; have a3 := hle.1; have a4 := hle.2
    dsimp only at a1 a2 a3 a4
    omega
  refine go_on (va_runI ⟨hx, hb, hml, hown, hts⟩ hM ⟨callB_of (ret := none) n hts (show GoodIn lw_ok (wsM y) from ok_in k3) (show wsM y = Cond.code y.1 y.2.1 y.2.2.1 none :: lw_ok by unfold wsM; rw [k8]) rfl rfl (hts _ k4) (hts _ k1) k5 (rmD_ok k6), k7, hts _ k2⟩ (As := av.map (cv w)) (b := adr w q) ⟨Pm_blind, Pm_at hS hKU⟩ rfl (by rw [List.length_map]; exact hlen) hl.1 (rest := rest.map (cv w)) (by rw [List.map_append, List.map_reverse]; rfl) (lv_room (by rw [catS]; exact hcat)) hd hroom) hlo fun H1 locs1 hS1 hlo1 => ?_
  have := kk p e s mid args below meth c C H1 locs1 ls hS1 hl hlo1 ⟨Nat.le_trans hn.1 c1, hle.1⟩ ⟨Nat.le_trans hz.1 c2, hle.2⟩
  refine W.cs (show _ = hN h1 - n0 from ?_) (show _ = hZ h1 - z0 from ?_) ?_
  · have a1 := hn.1; dsimp only at a1; show (hN h - n0) + (hN h1 - hN h) = hN h1 - n0; omega
  · have a2 := hz.1; dsimp only at a2; show (hZ h - z0) + (hZ h1 - hZ h) = hZ h1 - z0; omega
  · rw [List.map_append] at this
    cases r <;> exact this
theorem J.callIn {q : Nat} (hk : KIN m.1.cls idx y n) (hd : decode m.2.1 pc = .ok (.invokespecial idx, 3)) (hc : Cl w d y (.ref q :: av) h r h1) (hlen : av.length = n) (hcat : (rest.map fun v => v.category).sum ≤ 8) (hle : hN h1 ≤ hN g.2.2.2 ∧ hZ h1 ≤ hZ g.2.2.2) (kk : J w (d + 1) m g (pc + 3) L (r.toList ++ rest) h1) : J w (d + 1) m g pc L (av.reverse ++ .ref q :: rest) h := by
  obtain ⟨⟨host, k1⟩, ⟨k2, k7, k8⟩, k3, k4, k5, k6⟩ := hk
  obtain ⟨n0, z0, r0, h0⟩ := g
  obtain ⟨c1, c2, hM⟩ := hc
  intro p e s mid args below meth c C H locs ls hS hl hlo hn hz
  obtain ⟨hx, hb, hml, hown, hts, hr, hlk, hnm, hKU⟩ := id C
  have hroom : (hN h - n0) + (hN h1 - hN h) ≤ hN h0 - n0 ∧ (hZ h - z0) + (hZ h1 - hZ h) ≤ hZ h0 - z0 := by
    have a1 := hn.1; have a2 := hz.1; have a3 := hle.1; have a4 := hle.2
    dsimp only at a1 a2 a3 a4
    omega
  refine go_on (va_runIN ⟨hx, hb, hml, hown, hts⟩ hM ⟨va_cnB (ret := none) n hts (show GoodIn lw_ok (wsM y) from ok_in k3) (show wsM y = Cond.code y.1 y.2.1 y.2.2.1 none :: lw_ok by unfold wsM; rw [k8]) rfl rfl (hKU.2.1 _ k1) (hts _ k4) k5 (rmD_ok k6), k7, hts _ k2⟩ (As := av.map (cv w)) (b := adr w q) ⟨Pm_blind, Pm_at hS hKU⟩ rfl (by rw [List.length_map]; exact hlen) hl.1 (rest := rest.map (cv w)) (by rw [List.map_append, List.map_reverse]; rfl) (lv_room (by rw [catS]; exact hcat)) hd hroom) hlo fun H1 locs1 hS1 hlo1 => ?_
  have := kk p e s mid args below meth c C H1 locs1 ls hS1 hl hlo1 ⟨Nat.le_trans hn.1 c1, hle.1⟩ ⟨Nat.le_trans hz.1 c2, hle.2⟩
  refine W.cs (show _ = hN h1 - n0 from ?_) (show _ = hZ h1 - z0 from ?_) ?_
  · have a1 := hn.1; dsimp only at a1; show (hN h - n0) + (hN h1 - hN h) = hN h1 - n0; omega
  · have a2 := hz.1; dsimp only at a2; show (hZ h - z0) + (hZ h1 - hZ h) = hZ h1 - z0; omega
  · rw [List.map_append] at this
    cases r <;> exact this
/-- the class of an own object, or of a text -/
def isC (h : hp) (q : Nat) (C : String) : Prop := (33 ≤ q ∧ q < hN h ∧ (hK h q).1 < 12 ∧ cN (hK h q).1 = C) ∨ (q < 16 ∧ C = "java/lang/String")
theorem isC_cell {s : State} {H : Heap} {q : Nat} {C : String} (hS : Sim w s H h) (hK' : KU w s) (hq : isC h q C) : ∃ cellB : Cell, H[adr w q]? = some cellB ∧ cellB.vm.isStatics = false ∧ s.vm.findClass C = some cellB.cls := by
  rcases hq with ⟨o1, o2, o3, rfl⟩ | ⟨o1, rfl⟩
  · obtain ⟨cell, c1, c2⟩ := hS.2.2.1 q (by omega) o2
    rcases c2 with ⟨-, -, c3, c4, -⟩ | ⟨c3, -⟩
    · exact ⟨cell, c1, by rw [c3]; rfl, by rw [c4]; exact (hK'.1 _ o3).2.1⟩
    · omega
  · obtain ⟨cell, g1, g2, g3, g4⟩ := (hK'.2.2.2.1 q o1).1.kept (H1 := H) (fun q _ h2 => hS.2.2.2.1 q (Nat.not_le.mp h2))
    exact ⟨cell, by rw [show adr w q = wA w q from if_pos (by omega)]; exact g1, g2, g3⟩
theorem J.callV {q : Nat} (hk : KVi m.1.cls idx y n) (hd : decode m.2.1 pc = .ok (.invokevirtual idx, 3)) (hq : isC h q y.1.cls) (hc : Cl w d y (.ref q :: av) h r h1) (hlen : av.length = n) (hcat : (rest.map fun v => v.category).sum ≤ 8) (hle : hN h1 ≤ hN g.2.2.2 ∧ hZ h1 ≤ hZ g.2.2.2) (kk : J w (d + 1) m g (pc + 3) L (r.toList ++ rest) h1) : J w (d + 1) m g pc L (av.reverse ++ .ref q :: rest) h := by
  obtain ⟨k1, ⟨k2, k7⟩, k3, k4, k5, k6⟩ := hk
  obtain ⟨n0, z0, r0, h0⟩ := g
  obtain ⟨c1, c2, hM⟩ := hc
  intro p e s mid args below meth c C H locs ls hS hl hlo hn hz
  obtain ⟨hx, hb, hml, hown, hts, hr, hlk, hnm, hKU⟩ := id C
  have hroom : (hN h - n0) + (hN h1 - hN h) ≤ hN h0 - n0 ∧ (hZ h - z0) + (hZ h1 - hZ h) ≤ hZ h0 - z0 := by
    have a1 := hn.1; have a2 := hz.1; have a3 := hle.1; have a4 := hle.2
    dsimp only at a1 a2 a3 a4
    omega
  refine go_on (va_runV ⟨hx, hb, hml, hown, hts⟩ hM ⟨callB_of n hts (ok_in k3) rfl rfl rfl (hts _ k4) (hts _ k1) k5 (rmD_ok k6), hts _ k2, hts _ k7⟩ (As := av.map (cv w)) (b := adr w q) ⟨Pm_blind, isC_cell hS hKU hq, Pm_at hS hKU⟩ rfl (by rw [List.length_map]; exact hlen) hl.1 (rest := rest.map (cv w)) (by rw [List.map_append, List.map_reverse]; rfl) (lv_room (by rw [catS]; exact hcat)) hd hroom) hlo fun H1 locs1 hS1 hlo1 => ?_
  have := kk p e s mid args below meth c C H1 locs1 ls hS1 hl hlo1 ⟨Nat.le_trans hn.1 c1, hle.1⟩ ⟨Nat.le_trans hz.1 c2, hle.2⟩
  refine W.cs (show _ = hN h1 - n0 from ?_) (show _ = hZ h1 - z0 from ?_) ?_
  · have a1 := hn.1; dsimp only at a1; show (hN h - n0) + (hN h1 - hN h) = hN h1 - n0; omega
  · have a2 := hz.1; dsimp only at a2; show (hZ h - z0) + (hZ h1 - hZ h) = hZ h1 - z0; omega
  · rw [List.map_append] at this
    cases r <;> exact this
end
