/-! The straight stretch as a whole. -/
theorem lit_ne (w : Wd) (q : Option Nat) : cv w (rv q) = rv (q.map (adr w)) := by cases q <;> rfl
theorem fitR {w : Wd} {v : Option Nat} {ty : FieldType} (h : tyk 2 ty = true) : narrow ty (cv w (rv v)) = cv w (rv v) ∧ fits ty (cv w (rv v)) = true := by
  have h1 : fits ty .null = true ∧ fits ty (.ref 0) = true := by
    have h2 : (fits ty .null && fits ty (.ref 0)) = true := h
    simpa using h2
  cases ty with
  | object n => cases v <;> exact ⟨rfl, rfl⟩
  | array n => cases v <;> exact ⟨rfl, rfl⟩
  | _ => exact absurd h1.1 (by decide)
theorem p1_m {f g : Value → List Value → Prop} (hfg : ∀ v s, f v s → g v s) {st : List Value} (h : p1 st f) : p1 st g := by
  unfold p1 at h ⊢
  split at h <;> first | exact hfg _ _ h | exact h.elim
theorem pR_m {f g : Nat → List Value → Prop} (hfg : ∀ v s, f v s → g v s) {st : List Value} (h : pR st f) : pR st g := by
  unfold pR at h ⊢
  split at h <;> first | exact hfg _ _ h | exact h.elim
theorem gfO_m {a b t r : Nat} {h : hp} {f g : Value → Prop} (hfg : ∀ v, f v → g v) (hh : gfO a b t h r f) : gfO a b t h r g := by
  unfold gfO at hh ⊢
  split at hh
  · exact ⟨hh.1, hfg _ hh.2⟩
  · exact ⟨hh.1, hfg _ hh.2⟩
theorem pfO_m {a b t : Nat} {st : List Value} {h : hp} {f g : List Value → hp → Prop} (hfg : ∀ v s, f v s → g v s) (hh : pfO a b t st h f) : pfO a b t st h g := by
  unfold pfO at hh ⊢
  split at hh
  · obtain ⟨v, s', rfl, h1⟩ := pI_e hh
    obtain ⟨r, s', rfl, ho, h2⟩ := pR_e h1
    exact ⟨ho, hfg _ _ h2⟩
  · obtain ⟨v, s', rfl, h1⟩ := pJ_e hh
    obtain ⟨r, s', rfl, ho, h2⟩ := pR_e h1
    exact ⟨ho, hfg _ _ h2⟩
  · obtain ⟨v, s', rfl, h1⟩ := pI_e hh
    obtain ⟨r, s', rfl, ho, hv, h2⟩ := pR_e h1
    exact ⟨ho, hv, hfg _ _ h2⟩
  · obtain ⟨v, s', rfl, h1⟩ := pN_e hh
    obtain ⟨r, s', rfl, ho, h2⟩ := pR_e h1
    cases v <;> exact ⟨ho, hfg _ _ h2⟩
theorem rdI {h : hp} {r b j t : Nat} {v : Int32} (hj : j ≠ b) : rd t (sI h r b v) r j = rd t h r j := by
  unfold rd
  split
  · exact congrArg Value.int (up2_n hj)
  · rfl
  · rfl
theorem rdJ {h : hp} {r b j t : Nat} {v : Int64} (hj : j ≠ b) : rd t (sJ h r b v) r j = rd t h r j := by
  unfold rd
  split
  · rfl
  · exact congrArg Value.long (up2_n hj)
  · rfl
theorem rdR {h : hp} {r b j t : Nat} {v : Option Nat} (hj : j ≠ b) : rd t (sR h r b v) r j = rd t h r j := by
  unfold rd
  split
  · rfl
  · rfl
  · exact congrArg rv (up2_n hj)
theorem rdRs {h : hp} {r b t : Nat} {v : Option Nat} (h0 : ¬ t = 0) (h1 : ¬ t = 1) : rd t (sR h r b v) r b = rv v := by
  unfold rd
  split
  · exact absurd rfl h0
  · exact absurd rfl h1
  · exact congrArg rv up2_s
section
variable {w : Wd} {m : Mt} {p : Program} {e : Env} {R : Room} {s : State} {mid : MethodId} {args : Array Value} {below : List Frame} {meth : Method} {c : Code} {Q : State → Prop} {n0 z0 : Nat × Nat} {pc : Nat} {L : Lc} {st : List Value} {h : hp}
theorem in_ld {r k : Nat} {i : Int32} {H : Heap} (hS : Sim w s H h) (hok : okA h r k i) (hk : 20 ≤ k) : ∃ cell : Cell, H[adr w r]? = some cell ∧ s.isArrayOf cell (ety k) ∧ cell.vm ≠ .unknown ∧ ¬ (i < 0 ∨ cell.slots.size ≤ i.toNatClampNeg) ∧ cell.slots[i.toNatClampNeg]? = some (cv w (rd (etc k) h r i.toNatClampNeg)) := by
  obtain ⟨o1, o2, o3, o4⟩ := hok
  obtain ⟨cell, c1, c2⟩ := hS.2.2.1 r o1 o2
  rw [o3] at c2
  rcases c2 with ⟨c3, -⟩ | ⟨-, -, c3, c4, c5, -, c6⟩
  · omega
  · exact ⟨cell, c1, c3, c4, fun z => o4 (z.imp id (Nat.le_trans c5.2.1)), c6 _ (Nat.not_le.mp fun z => o4 (Or.inr z))⟩
theorem lo_app {locs : List Loc} {r i : Nat} (hlo : ∀ q ∈ locs, wB w ≤ q.base) (hr : 33 ≤ r) : ∀ q ∈ locs ++ [⟨adr w r, i⟩], wB w ≤ q.base := fun q hq => by
  rcases List.mem_append.mp hq with z | z
  · exact hlo q z
  · rw [List.mem_singleton.mp z, adr_own hr]; show wB w ≤ wB w + (r - 33); omega
set_option maxHeartbeats 4000000 in
theorem stp_ok (C : Cx w m p s mid args meth c) (x : Ins) (hd : decode m.2.1 pc = .ok (x.1, il x.1)) (ha : aok m x = true)
    (hs : stp x L st h (fun L' st' h' => JW w m p e R s mid args below meth c Q n0 z0 (pc + il x.1) L' st' h')) : JW w m p e R s mid args below meth c Q n0 z0 pc L st h := by
  obtain ⟨hx, hb, hml, hown, hts, hr, hlk, hnm, hKU⟩ := id C
  obtain ⟨i, a, b, t⟩ := x
  cases i with
  | iconst n =>
    intro H locs ls hS hl hlo hn hz
    exact lv_iconst hx hb hd (of_decide_eq_true ha) (hs H locs ls hS hl hlo hn hz)
  | bipush n =>
    intro H locs ls hS hl hlo hn hz
    exact lv_bipush hx hb hd (of_decide_eq_true ha) (hs H locs ls hS hl hlo hn hz)
  | sipush n =>
    intro H locs ls hS hl hlo hn hz
    exact lv_sipush hx hb hd (of_decide_eq_true ha) (hs H locs ls hS hl hlo hn hz)
  | lconst n =>
    intro H locs ls hS hl hlo hn hz
    exact lv_lconst hx hb hd rfl (hs H locs ls hS hl hlo hn hz)
  | aconst_null =>
    intro H locs ls hS hl hlo hn hz
    exact lv_null hx hb hd (hs H locs ls hS hl hlo hn hz)
  | ldc k =>
    cases a with
    | zero =>
      intro H locs ls hS hl hlo hn hz
      exact lv_ldc hx hb hown (hts _ (cki_use (of_decide_eq_true ha))) hd (hs H locs ls hS hl hlo hn hz)
    | succ a =>
      obtain ⟨⟨o, j, tx, q⟩, hm, he⟩ := List.any_eq_true.mp (show (srf.any fun e => e.1 == m.1.cls && e.2.1 == k && e.2.2.2 == b) = true from ha)
      simp only [Bool.and_eq_true, beq_iff_eq] at he
      obtain ⟨⟨h1, h2⟩, h3⟩ := he
      subst h2; subst h3
      have hR := hKU.2.2.1 _ hm
      rw [h1] at hR
      have hq : q < 33 := by
        have := List.all_eq_true.mp (show srf.all (fun e => decide (e.2.2.2 < 33)) = true by decide +kernel) _ hm
        exact of_decide_eq_true this
      intro H locs ls hS hl hlo hn hz
      refine va_ldcS hx hb hown hR hd ?_
      have := (hs H locs ls hS hl hlo hn hz)
      rw [List.map_cons, show cv w (.ref q) = .ref (wA w q) from congrArg Value.ref (if_pos hq)] at this
      exact this
  | ldc_w k =>
    cases a with
    | zero =>
      intro H locs ls hS hl hlo hn hz
      exact lv_ldcw hx hb hown (hts _ (cki_use (of_decide_eq_true ha))) hd (hs H locs ls hS hl hlo hn hz)
    | succ a => exact (hs : False).elim
  | ldc2_w k =>
    have hc := ckl_use (of_decide_eq_true ha)
    cases a with
    | zero =>
      intro H locs ls hS hl hlo hn hz
      exact lv_ldc2 hx hb hown (hts _ hc) hd (hs H locs ls hS hl hlo hn hz)
    | succ a =>
      intro H locs ls hS hl hlo hn hz
      exact lv_ldc2 hx hb hown (hts _ hc) hd (hs H locs ls hS hl hlo hn hz)
  | iload_n k =>
    obtain ⟨v, hv, hs⟩ := onI_e hs
    intro H locs ls hS hl hlo hn hz
    exact lv_iload_n hx hb hd rfl (hl.2.2 _ _ hv) (hs H locs ls hS hl hlo hn hz)
  | iload k =>
    obtain ⟨v, hv, hs⟩ := onI_e hs
    intro H locs ls hS hl hlo hn hz
    exact lv_iload hx hb hd (hl.2.2 _ _ hv) (hs H locs ls hS hl hlo hn hz)
  | lload_n k =>
    obtain ⟨v, hv, hs⟩ := onJ_e hs
    intro H locs ls hS hl hlo hn hz
    exact lv_lload_n hx hb hd rfl (hl.2.2 _ _ hv) (hs H locs ls hS hl hlo hn hz)
  | lload k =>
    obtain ⟨v, hv, hs⟩ := onJ_e hs
    intro H locs ls hS hl hlo hn hz
    exact lv_lload hx hb hd (hl.2.2 _ _ hv) (hs H locs ls hS hl hlo hn hz)
  | aload_n k =>
    have hs : onA (gL L k.val) fun v => JW w m p e R s mid args below meth c Q n0 z0 (pc + 1) L (v :: st) h := hs
    obtain ⟨v, hv, hk, hs⟩ := onA_e hs
    intro H locs ls hS hl hlo hn hz
    exact aload_nV (cvA hk) hx hb hd (hl.2.2 _ _ hv) (hs H locs ls hS hl hlo hn hz)
  | aload k =>
    have hs : onA (gL L k) fun v => JW w m p e R s mid args below meth c Q n0 z0 (pc + 2) L (v :: st) h := hs
    obtain ⟨v, hv, hk, hs⟩ := onA_e hs
    intro H locs ls hS hl hlo hn hz
    exact aloadV (cvA hk) hx hb hd (hl.2.2 _ _ hv) (hs H locs ls hS hl hlo hn hz)
  | istore_n k =>
    obtain ⟨v, s', rfl, hs⟩ := pI_e hs
    intro H locs ls hS hl hlo hn hz
    exact lv_istore_n hx hb hd rfl hl.has (of_decide_eq_true ha) rfl (fun ls' hl' => hs H locs ls' hS (LR.st1 hl') hlo hn hz)
  | istore k =>
    obtain ⟨v, s', rfl, hs⟩ := pI_e hs
    intro H locs ls hS hl hlo hn hz
    exact lv_istore hx hb hd hl.has (of_decide_eq_true ha) rfl (fun ls' hl' => hs H locs ls' hS (LR.st1 hl') hlo hn hz)
  | lstore_n k =>
    obtain ⟨v, s', rfl, hs⟩ := pJ_e hs
    intro H locs ls hS hl hlo hn hz
    exact lv_lstore_n hx hb hd rfl hl.has (of_decide_eq_true ha) rfl (fun ls' hl' => hs H locs ls' hS (LR.st2 hl') hlo hn hz)
  | lstore k =>
    obtain ⟨v, s', rfl, hs⟩ := pJ_e hs
    intro H locs ls hS hl hlo hn hz
    exact lv_lstore hx hb hd hl.has (of_decide_eq_true ha) rfl (fun ls' hl' => hs H locs ls' hS (LR.st2 hl') hlo hn hz)
  | astore_n k =>
    obtain ⟨v, s', rfl, hs⟩ := pR_e hs
    intro H locs ls hS hl hlo hn hz
    exact lv_astore_n hx hb hd rfl hl.has (of_decide_eq_true ha) rfl (fun ls' hl' => hs H locs ls' hS (LR.st1 hl') hlo hn hz)
  | astore k =>
    obtain ⟨v, s', rfl, hs⟩ := pR_e hs
    intro H locs ls hS hl hlo hn hz
    exact lv_astore hx hb hd hl.has (of_decide_eq_true ha) rfl (fun ls' hl' => hs H locs ls' hS (LR.st1 hl') hlo hn hz)
  | iinc k n =>
    obtain ⟨v, hv, hs⟩ := onI_e hs
    have ha2 := (Bool.and_eq_true _ _).mp ha
    obtain ⟨j, hj⟩ := List.getElem?_of_mem (asc_mem (w := w) hv)
    intro H locs ls hS hl hlo hn hz
    exact lv_iinc hx hb hd hl.has (k := j) hj (by rw [of_decide_eq_true ha2.2]) (of_decide_eq_true ha2.1) rfl (fun ls' hl' => hs H locs ls' hS (LR.st1 hl') hlo hn hz)
  | iadd =>
    obtain ⟨x, y, s', rfl, hs⟩ := pII_e hs
    intro H locs ls hS hl hlo hn hz
    exact lv_iadd hx hb hd (hs H locs ls hS hl hlo hn hz)
  | isub =>
    obtain ⟨x, y, s', rfl, hs⟩ := pII_e hs
    intro H locs ls hS hl hlo hn hz
    exact lv_isub hx hb hd (hs H locs ls hS hl hlo hn hz)
  | imul =>
    obtain ⟨x, y, s', rfl, hs⟩ := pII_e hs
    intro H locs ls hS hl hlo hn hz
    exact lv_imul hx hb hd (hs H locs ls hS hl hlo hn hz)
  | iand =>
    obtain ⟨x, y, s', rfl, hs⟩ := pII_e hs
    intro H locs ls hS hl hlo hn hz
    exact lv_iand hx hb hd (hs H locs ls hS hl hlo hn hz)
  | ior =>
    obtain ⟨x, y, s', rfl, hs⟩ := pII_e hs
    intro H locs ls hS hl hlo hn hz
    exact lv_ior hx hb hd (hs H locs ls hS hl hlo hn hz)
  | ixor =>
    obtain ⟨x, y, s', rfl, hs⟩ := pII_e hs
    intro H locs ls hS hl hlo hn hz
    exact lv_ixor hx hb hd (hs H locs ls hS hl hlo hn hz)
  | ishl =>
    obtain ⟨x, y, s', rfl, hs⟩ := pII_e hs
    intro H locs ls hS hl hlo hn hz
    exact lv_ishl hx hb hd (hs H locs ls hS hl hlo hn hz)
  | ishr =>
    obtain ⟨x, y, s', rfl, hs⟩ := pII_e hs
    intro H locs ls hS hl hlo hn hz
    exact lv_ishr hx hb hd (hs H locs ls hS hl hlo hn hz)
  | idiv =>
    obtain ⟨x, y, s', rfl, hne, hs⟩ := pII_e hs
    intro H locs ls hS hl hlo hn hz
    exact lv_idiv hx hb hd hne (hs H locs ls hS hl hlo hn hz)
  | irem =>
    obtain ⟨x, y, s', rfl, hne, hs⟩ := pII_e hs
    intro H locs ls hS hl hlo hn hz
    exact lv_irem hx hb hd hne (hs H locs ls hS hl hlo hn hz)
  | ineg =>
    obtain ⟨x, s', rfl, hs⟩ := pI_e hs
    intro H locs ls hS hl hlo hn hz
    exact lv_ineg hx hb hd (hs H locs ls hS hl hlo hn hz)
  | iushr =>
    obtain ⟨x, y, s', rfl, hs⟩ := pII_e hs
    intro H locs ls hS hl hlo hn hz
    exact lv_iushr hx hb hd rfl (hs H locs ls hS hl hlo hn hz)
  | lsub =>
    obtain ⟨x, y, s', rfl, hs⟩ := pJJ_e hs
    intro H locs ls hS hl hlo hn hz
    exact lv_lsub hx hb hd (hs H locs ls hS hl hlo hn hz)
  | land =>
    obtain ⟨x, y, s', rfl, hs⟩ := pJJ_e hs
    intro H locs ls hS hl hlo hn hz
    exact lv_land hx hb hd (hs H locs ls hS hl hlo hn hz)
  | lor =>
    obtain ⟨x, y, s', rfl, hs⟩ := pJJ_e hs
    intro H locs ls hS hl hlo hn hz
    exact lv_lor hx hb hd (hs H locs ls hS hl hlo hn hz)
  | lxor =>
    obtain ⟨x, y, s', rfl, hs⟩ := pJJ_e hs
    intro H locs ls hS hl hlo hn hz
    exact lv_lxor hx hb hd (hs H locs ls hS hl hlo hn hz)
  | lshl =>
    obtain ⟨x, y, s', rfl, hs⟩ := pJI_e hs
    intro H locs ls hS hl hlo hn hz
    exact lv_lshl hx hb hd rfl (hs H locs ls hS hl hlo hn hz)
  | lshr =>
    obtain ⟨x, y, s', rfl, hs⟩ := pJI_e hs
    intro H locs ls hS hl hlo hn hz
    exact lv_lshr hx hb hd rfl (hs H locs ls hS hl hlo hn hz)
  | lushr =>
    obtain ⟨x, y, s', rfl, hs⟩ := pJI_e hs
    intro H locs ls hS hl hlo hn hz
    exact lv_lushr hx hb hd rfl (hs H locs ls hS hl hlo hn hz)
  | lcmp =>
    obtain ⟨x, y, s', rfl, hs⟩ := pJJ_e hs
    intro H locs ls hS hl hlo hn hz
    exact W.lcmp hx hb hd (hs H locs ls hS hl hlo hn hz)
  | i2l =>
    obtain ⟨x, s', rfl, hs⟩ := pI_e hs
    intro H locs ls hS hl hlo hn hz
    exact lv_i2l hx hb hd rfl (hs H locs ls hS hl hlo hn hz)
  | i2b =>
    obtain ⟨x, s', rfl, hs⟩ := pI_e hs
    intro H locs ls hS hl hlo hn hz
    exact lv_i2b hx hb hd rfl (hs H locs ls hS hl hlo hn hz)
  | i2s =>
    obtain ⟨x, s', rfl, hs⟩ := pI_e hs
    intro H locs ls hS hl hlo hn hz
    exact lv_i2s hx hb hd rfl (hs H locs ls hS hl hlo hn hz)
  | i2c =>
    obtain ⟨x, s', rfl, hs⟩ := pI_e hs
    intro H locs ls hS hl hlo hn hz
    exact lv_i2c hx hb hd rfl (hs H locs ls hS hl hlo hn hz)
  | l2i =>
    obtain ⟨x, s', rfl, hs⟩ := pJ_e hs
    intro H locs ls hS hl hlo hn hz
    exact lv_l2i hx hb hd rfl (hs H locs ls hS hl hlo hn hz)
  | dup =>
    have hs : p1 st fun v s' => JW w m p e R s mid args below meth c Q n0 z0 (pc + 1) L (v :: v :: s') h := hs
    obtain ⟨v, s', rfl, hc, hs⟩ := p1_e hs
    intro H locs ls hS hl hlo hn hz
    exact lv_dup hx hb hd (by rw [cv_cat]; exact hc) (hs H locs ls hS hl hlo hn hz)
  | dup2 =>
    have hs : p1 st fun v s1 => p1 s1 fun u s2 => JW w m p e R s mid args below meth c Q n0 z0 (pc + 1) L (v :: u :: v :: u :: s2) h := hs
    obtain ⟨v, s', rfl, hc, hs⟩ := p1_e hs
    obtain ⟨u, s', rfl, hc2, hs⟩ := p1_e hs
    intro H locs ls hS hl hlo hn hz
    exact lv_dup2_11 hx hb hd (by rw [cv_cat]; exact hc) (by rw [cv_cat]; exact hc2) (hs H locs ls hS hl hlo hn hz)
  | pop =>
    have hs : p1 st fun _ s' => JW w m p e R s mid args below meth c Q n0 z0 (pc + 1) L s' h := hs
    obtain ⟨v, s', rfl, hc, hs⟩ := p1_e hs
    intro H locs ls hS hl hlo hn hz
    exact lv_pop hx hb hd (by rw [cv_cat]; exact hc) (hs H locs ls hS hl hlo hn hz)
  | arraylength =>
    obtain ⟨r, s', rfl, ⟨o1, o2, o3⟩, hs⟩ := pR_e hs
    intro H locs ls hS hl hlo hn hz
    obtain ⟨cell, c1, c2⟩ := hS.2.2.1 r o1 o2
    rcases c2 with ⟨c3, -⟩ | ⟨-, -, c3, c4, c5, -, c6⟩
    · omega
    · exact W.alen hx hb c1 c3 c5.2.2 rfl rfl hd (hs H locs ls hS hl hlo hn hz)
  | iaload =>
    obtain ⟨i, s', rfl, hs⟩ := pI_e hs
    obtain ⟨r, s', rfl, hok, hs⟩ := pR_e hs
    intro H locs ls hS hl hlo hn hz
    obtain ⟨cell, c1, c2, c3, c4, c5⟩ := in_ld hS hok (by decide)
    exact W.iald hx hb c1 c2 c3 c4 c5 rfl rfl hd (hs H locs ls hS hl hlo hn hz)
  | laload =>
    obtain ⟨i, s', rfl, hs⟩ := pI_e hs
    obtain ⟨r, s', rfl, hok, hs⟩ := pR_e hs
    intro H locs ls hS hl hlo hn hz
    obtain ⟨cell, c1, c2, c3, c4, c5⟩ := in_ld hS hok (by decide)
    exact W.lald hx hb c1 c2 c3 c4 c5 rfl rfl hd (hs H locs ls hS hl hlo hn hz)
  | baload =>
    obtain ⟨i, s', rfl, hs⟩ := pI_e hs
    obtain ⟨r, s', rfl, hok, hs⟩ := pR_e hs
    intro H locs ls hS hl hlo hn hz
    obtain ⟨cell, c1, c2, c3, c4, c5⟩ := in_ld hS hok (by decide)
    exact W.bald hx hb c1 c2 c3 c4 c5 rfl rfl hd (hs H locs ls hS hl hlo hn hz)
  | aaload =>
    obtain ⟨i, s', rfl, hs⟩ := pI_e hs
    obtain ⟨r, s', rfl, ⟨o1, o2, o3, o4, o5⟩, hs⟩ := pR_e hs
    intro H locs ls hS hl hlo hn hz
    obtain ⟨cell, c1, c2, c3, c4, c5⟩ := in_ld hS ⟨o1, o2, rfl, o5⟩ (show 20 ≤ (hK h r).1 by omega)
    have hk : (hK h r).1 = 23 ∨ (hK h r).1 = 24 ∨ (hK h r).1 = 25 := by omega
    rcases hk with hk | hk | hk <;> rw [hk] at c2 c5 <;> exact W.aald hx hb c1 c2 rfl c3 c4 c5 rfl rfl hd (hs H locs ls hS hl hlo hn hz)
  | iastore =>
    obtain ⟨v, s', rfl, hs⟩ := pI_e hs
    obtain ⟨i, s', rfl, hs⟩ := pI_e hs
    obtain ⟨r, s', rfl, ⟨o1, o2, o3, o4⟩, hs⟩ := pR_e hs
    intro H locs ls hS hl hlo hn hz
    obtain ⟨cell, c1, c2, c3, c4, c5⟩ := in_ld hS ⟨show 16 ≤ r by omega, o2, o3, o4⟩ (by decide)
    refine W.iast hx hb c1 c2 c3 c4 rfl rfl hd fun H' e1 e2 e3 => ?_
    refine hs H' _ ls (hS.arr (v := .int v) o1 o2 (by rw [o3]; decide) (Nat.not_le.mp fun z => o4 (Or.inr z)) c1 e1 e2 e3 rfl rfl (fun q hq => ⟨fun j => up2_o hq, fun j => rfl, fun j => rfl⟩) ?_ ?_) hl (lo_app hlo o1) hn hz
    · rw [o3]; exact congrArg Value.int up2_s
    · intro j hj; rw [o3]; exact congrArg Value.int (up2_n hj)
  | bastore =>
    obtain ⟨v, s', rfl, hs⟩ := pI_e hs
    obtain ⟨i, s', rfl, hs⟩ := pI_e hs
    obtain ⟨r, s', rfl, ⟨o1, o2, o3, o4⟩, hs⟩ := pR_e hs
    intro H locs ls hS hl hlo hn hz
    obtain ⟨cell, c1, c2, c3, c4, c5⟩ := in_ld hS ⟨show 16 ≤ r by omega, o2, o3, o4⟩ (by decide)
    refine W.bast hx hb c1 c2 c3 c4 rfl rfl hd fun H' e1 e2 e3 => ?_
    refine hs H' _ ls (hS.arr (v := .int v.toInt8.toInt32) o1 o2 (by rw [o3]; decide) (Nat.not_le.mp fun z => o4 (Or.inr z)) c1 e1 e2 e3 rfl rfl (fun q hq => ⟨fun j => up2_o hq, fun j => rfl, fun j => rfl⟩) ?_ ?_) hl (lo_app hlo o1) hn hz
    · rw [o3]; exact congrArg Value.int up2_s
    · intro j hj; rw [o3]; exact congrArg Value.int (up2_n hj)
  | lastore =>
    obtain ⟨v, s', rfl, hs⟩ := pJ_e hs
    obtain ⟨i, s', rfl, hs⟩ := pI_e hs
    obtain ⟨r, s', rfl, ⟨o1, o2, o3, o4⟩, hs⟩ := pR_e hs
    intro H locs ls hS hl hlo hn hz
    obtain ⟨cell, c1, c2, c3, c4, c5⟩ := in_ld hS ⟨show 16 ≤ r by omega, o2, o3, o4⟩ (by decide)
    refine W.last hx hb c1 c2 c3 c4 rfl rfl hd fun H' e1 e2 e3 => ?_
    refine hs H' _ ls (hS.arr (v := .long v) o1 o2 (by rw [o3]; decide) (Nat.not_le.mp fun z => o4 (Or.inr z)) c1 e1 e2 e3 rfl rfl (fun q hq => ⟨fun j => rfl, fun j => up2_o hq, fun j => rfl⟩) ?_ ?_) hl (lo_app hlo o1) hn hz
    · rw [o3]; exact congrArg Value.long up2_s
    · intro j hj; rw [o3]; exact congrArg Value.long (up2_n hj)
  | getfield k =>
    have hs : pR st fun r s' => gfO a b t h r fun v => JW w m p e R s mid args below meth c Q n0 z0 (pc + 3) L (v :: s') h := hs
    obtain ⟨r, s', rfl, hg⟩ := pR_e hs
    by_cases ha30 : a = 30
    · subst ha30
      have ha2 := (Bool.and_eq_true _ _).mp (show (decide ((m.1.cls, k, b) ∈ jfl) && decide (b < 2)) = true from ha)
      have hj := jfl_use (of_decide_eq_true ha2.1)
      have hb2 : b = 0 ∨ b = 1 := by have := of_decide_eq_true ha2.2; omega
      have e1 : ∀ q, q < 33 → adr w q = wA w q := fun q hq => if_pos hq
      rcases hb2 with rfl | rfl
      · obtain ⟨hr16, hs⟩ : r < 16 ∧ JW w m p e R s mid args below meth c Q n0 z0 (pc + 3) L (.ref (16 + r) :: s') h := hg
        obtain ⟨-, g1, g2⟩ := hKU.2.2.2.1 r hr16
        intro H locs ls hS hl hlo hn hz
        obtain ⟨cf, k', fi, f, cell, h1, h2, h3, h4, h5, h6⟩ := g2.kept (H1 := H) (fun q _ h2 => hS.2.2.2.1 q (Nat.not_le.mp h2))
        refine W.getf hx hb hown (hts _ hj) h1 h2 (a := adr w r) (by rw [e1 r (by omega)]; exact h3) h4 (v := .ref (wA w (16 + r))) h5 rfl rfl hd ?_
        have := (hs H locs ls hS hl hlo hn hz)
        rw [List.map_cons, show cv w (.ref (16 + r)) = .ref (wA w (16 + r)) from congrArg Value.ref (e1 _ (by omega))] at this
        exact this
      · obtain ⟨hr16, hs⟩ : r < 16 ∧ JW w m p e R s mid args below meth c Q n0 z0 (pc + 3) L (.int 0 :: s') h := hg
        obtain ⟨-, g1, g2⟩ := hKU.2.2.2.1 r hr16
        intro H locs ls hS hl hlo hn hz
        obtain ⟨cf, k', fi, f, cell, h1, h2, h3, h4, h5, h6⟩ := g1.kept (H1 := H) (fun q _ h2 => hS.2.2.2.1 q (Nat.not_le.mp h2))
        exact W.getf hx hb hown (hts _ hj) h1 h2 (a := adr w r) (by rw [e1 r (by omega)]; exact h3) h4 (v := .int 0) h5 rfl rfl hd (hs H locs ls hS hl hlo hn hz)
    · obtain ⟨ref, hm⟩ := fl_any2 (akG_e ha30 (show akG m.1.cls k a b t = true from ha))
      obtain ⟨h1, h2⟩ := gfO_e ha30 hg
      exact so_get C hm hd h1 h2
  | putfield k =>
    have ha2 := (Bool.and_eq_true _ _).mp ha
    obtain ⟨ref, t0, hm⟩ := fl_any ha2.1
    have hs : pfO a b t st h fun s' h' => JW w m p e R s mid args below meth c Q n0 z0 (pc + 3) L s' h' := hs
    by_cases t0e : t = 0
    · subst t0e
      have hs : pI st fun v s' => pR s' fun r s'' => okO h r a ∧ JW w m p e R s mid args below meth c Q n0 z0 (pc + 3) L s'' (sI h r b v) := hs
      obtain ⟨v, s', rfl, hs⟩ := pI_e hs
      obtain ⟨r, s', rfl, hO, hs⟩ := pR_e hs
      exact so_put (h' := sI h r b v) C hm ha2.2 hd hO (fun ty hty => by have : ty = .int := of_decide_eq_true hty; subst this; exact ⟨rfl, rfl⟩) rfl rfl rfl (fun q hq => ⟨fun j => up2_o hq, fun j => rfl, fun j => rfl⟩) (congrArg Value.int up2_s) (fun t' j hj => rdI hj) hs
    by_cases t1e : t = 1
    · subst t1e
      have hs : pJ st fun v s' => pR s' fun r s'' => okO h r a ∧ JW w m p e R s mid args below meth c Q n0 z0 (pc + 3) L s'' (sJ h r b v) := hs
      obtain ⟨v, s', rfl, hs⟩ := pJ_e hs
      obtain ⟨r, s', rfl, hO, hs⟩ := pR_e hs
      exact so_put (h' := sJ h r b v) C hm ha2.2 hd hO (fun ty hty => by have : ty = .long := of_decide_eq_true hty; subst this; exact ⟨rfl, rfl⟩) rfl rfl rfl (fun q hq => ⟨fun j => rfl, fun j => up2_o hq, fun j => rfl⟩) (congrArg Value.long up2_s) (fun t' j hj => rdJ hj) hs
    by_cases t3e : t = 3
    · subst t3e
      have hs : pI st fun v s' => pR s' fun r s'' => okO h r a ∧ (v = 0 ∨ v = 1) ∧ JW w m p e R s mid args below meth c Q n0 z0 (pc + 3) L s'' (sI h r b v) := hs
      obtain ⟨v, s', rfl, hs⟩ := pI_e hs
      obtain ⟨r, s', rfl, hO, hv01, hs⟩ := pR_e hs
      exact so_put (h' := sI h r b v) C hm ha2.2 hd hO (fun ty hty => by have : ty = .boolean := of_decide_eq_true hty; subst this; rcases hv01 with rfl | rfl <;> exact ⟨rfl, rfl⟩) rfl rfl rfl (fun q hq => ⟨fun j => up2_o hq, fun j => rfl, fun j => rfl⟩) (congrArg Value.int up2_s) (fun t' j hj => rdI hj) hs
    have ety2 : ∀ ty, tyk t ty = true → tyk 2 ty = true := by
      intro ty
      unfold tyk
      split
      · exact absurd rfl t0e
      · exact absurd rfl t1e
      · exact absurd rfl t3e
      · exact fun z => z
    obtain ⟨v, s', rfl, hg⟩ := pN_e (pfO_e t0e t1e t3e hs)
    have hg : pR s' fun r s'' => okO h r a ∧ JW w m p e R s mid args below meth c Q n0 z0 (pc + 3) L s'' (sR h r b v) := hg
    obtain ⟨r, s', rfl, hO, hs⟩ := pR_e hg
    exact so_put (h' := sR h r b v) C hm ha2.2 hd hO (fun ty hty => fitR (ety2 ty hty)) rfl rfl rfl (fun q hq => ⟨fun j => rfl, fun j => rfl, fun j => up2_o hq⟩) (by rw [if_neg t3e]; exact rdRs t0e t1e) (fun t' j hj => rdR hj) hs
  | getstatic k =>
    cases a with
    | zero =>
      have hj := jfl_use (of_decide_eq_true ha)
      intro H locs ls hS hl hlo hn hz
      obtain ⟨cf, kf, fi, f, q, cell, h1, h2, h3, h4, h5, h6, h7, h8⟩ := hKU.2.2.2.2.1.kept (H1 := H) (fun q _ h2 => hS.2.2.2.1 q (Nat.not_le.mp h2))
      exact W.gets hx hb hown (hts _ hj) h1 h2 h3 h4 h5 (fun e => by rw [e] at h6; cases h6) h7 rfl hd (hs H locs ls hS hl hlo hn hz)
    | succ a =>
      have hj := jfl_use (of_decide_eq_true ha)
      intro H locs ls hS hl hlo hn hz
      obtain ⟨cf, kf, fi, f, q, cell, h1, h2, h3, h4, h5, h6, h7, h8⟩ := hKU.2.2.2.2.2.kept (H1 := H) (fun q _ h2 => hS.2.2.2.1 q (Nat.not_le.mp h2))
      exact W.gets hx hb hown (hts _ hj) h1 h2 h3 h4 h5 (fun e => by rw [e] at h6; cases h6) h7 rfl hd (hs H locs ls hS hl hlo hn hz)
  | _ => exact (hs : False).elim
theorem stp_mono {K K' : Lc → List Value → hp → Prop} (hK : ∀ L st h, K L st h → K' L st h) (x : Ins) (hs : stp x L st h K) : stp x L st h K' := by
  obtain ⟨i, a, b, t⟩ := x
  cases i with
  | iconst n =>
    exact hK _ _ _ hs
  | bipush n =>
    exact hK _ _ _ hs
  | sipush n =>
    exact hK _ _ _ hs
  | lconst n =>
    exact hK _ _ _ hs
  | aconst_null =>
    exact hK _ _ _ hs
  | ldc k =>
    cases a with
    | zero => exact hK _ _ _ hs
    | succ a => exact hK _ _ _ hs
  | ldc_w k =>
    cases a with
    | zero => exact hK _ _ _ hs
    | succ a => exact (hs : False).elim
  | ldc2_w k =>
    cases a with
    | zero => exact hK _ _ _ hs
    | succ a => exact hK _ _ _ hs
  | getstatic k =>
    cases a with
    | zero => exact hK _ _ _ hs
    | succ a => exact hK _ _ _ hs
  | iload_n k =>
    obtain ⟨v, hv, hs⟩ := onI_e hs
    show onI _ _
    rw [hv]
    exact hK _ _ _ hs
  | iload k =>
    obtain ⟨v, hv, hs⟩ := onI_e hs
    show onI _ _
    rw [hv]
    exact hK _ _ _ hs
  | lload_n k =>
    obtain ⟨v, hv, hs⟩ := onJ_e hs
    show onJ _ _
    rw [hv]
    exact hK _ _ _ hs
  | lload k =>
    obtain ⟨v, hv, hs⟩ := onJ_e hs
    show onJ _ _
    rw [hv]
    exact hK _ _ _ hs
  | aload_n k =>
    have hs : onA (gL L k.val) fun v => K L (v :: st) h := hs
    show onA (gL L k.val) fun v => K' L (v :: st) h
    obtain ⟨v, hv, hk, hs⟩ := onA_e hs
    rw [hv]
    rcases hk with ⟨r, rfl⟩ | rfl | ⟨q, rfl⟩ <;> exact hK _ _ _ hs
  | aload k =>
    have hs : onA (gL L k) fun v => K L (v :: st) h := hs
    show onA (gL L k) fun v => K' L (v :: st) h
    obtain ⟨v, hv, hk, hs⟩ := onA_e hs
    rw [hv]
    rcases hk with ⟨r, rfl⟩ | rfl | ⟨q, rfl⟩ <;> exact hK _ _ _ hs
  | istore_n k =>
    obtain ⟨v, s', rfl, hg⟩ := pI_e hs
    exact hK _ _ _ hg
  | istore k =>
    obtain ⟨v, s', rfl, hg⟩ := pI_e hs
    exact hK _ _ _ hg
  | lstore_n k =>
    obtain ⟨v, s', rfl, hg⟩ := pJ_e hs
    exact hK _ _ _ hg
  | lstore k =>
    obtain ⟨v, s', rfl, hg⟩ := pJ_e hs
    exact hK _ _ _ hg
  | astore_n k =>
    obtain ⟨v, s', rfl, hg⟩ := pR_e hs
    exact hK _ _ _ hg
  | astore k =>
    obtain ⟨v, s', rfl, hg⟩ := pR_e hs
    exact hK _ _ _ hg
  | iinc k n =>
    obtain ⟨v, hv, hs⟩ := onI_e hs
    show onI _ _
    rw [hv]
    exact hK _ _ _ hs
  | iadd =>
    obtain ⟨x, y, s', rfl, hg⟩ := pII_e hs
    exact hK _ _ _ hg
  | isub =>
    obtain ⟨x, y, s', rfl, hg⟩ := pII_e hs
    exact hK _ _ _ hg
  | imul =>
    obtain ⟨x, y, s', rfl, hg⟩ := pII_e hs
    exact hK _ _ _ hg
  | iand =>
    obtain ⟨x, y, s', rfl, hg⟩ := pII_e hs
    exact hK _ _ _ hg
  | ior =>
    obtain ⟨x, y, s', rfl, hg⟩ := pII_e hs
    exact hK _ _ _ hg
  | ixor =>
    obtain ⟨x, y, s', rfl, hg⟩ := pII_e hs
    exact hK _ _ _ hg
  | ishl =>
    obtain ⟨x, y, s', rfl, hg⟩ := pII_e hs
    exact hK _ _ _ hg
  | ishr =>
    obtain ⟨x, y, s', rfl, hg⟩ := pII_e hs
    exact hK _ _ _ hg
  | iushr =>
    obtain ⟨x, y, s', rfl, hg⟩ := pII_e hs
    exact hK _ _ _ hg
  | idiv =>
    obtain ⟨x, y, s', rfl, hne, hg⟩ := pII_e hs
    exact ⟨hne, hK _ _ _ hg⟩
  | irem =>
    obtain ⟨x, y, s', rfl, hne, hg⟩ := pII_e hs
    exact ⟨hne, hK _ _ _ hg⟩
  | lsub =>
    obtain ⟨x, y, s', rfl, hg⟩ := pJJ_e hs
    exact hK _ _ _ hg
  | land =>
    obtain ⟨x, y, s', rfl, hg⟩ := pJJ_e hs
    exact hK _ _ _ hg
  | lor =>
    obtain ⟨x, y, s', rfl, hg⟩ := pJJ_e hs
    exact hK _ _ _ hg
  | lxor =>
    obtain ⟨x, y, s', rfl, hg⟩ := pJJ_e hs
    exact hK _ _ _ hg
  | lcmp =>
    obtain ⟨x, y, s', rfl, hg⟩ := pJJ_e hs
    exact hK _ _ _ hg
  | lshl =>
    obtain ⟨x, y, s', rfl, hg⟩ := pJI_e hs
    exact hK _ _ _ hg
  | lshr =>
    obtain ⟨x, y, s', rfl, hg⟩ := pJI_e hs
    exact hK _ _ _ hg
  | lushr =>
    obtain ⟨x, y, s', rfl, hg⟩ := pJI_e hs
    exact hK _ _ _ hg
  | i2l =>
    obtain ⟨x, s', rfl, hg⟩ := pI_e hs
    exact hK _ _ _ hg
  | i2b =>
    obtain ⟨x, s', rfl, hg⟩ := pI_e hs
    exact hK _ _ _ hg
  | i2s =>
    obtain ⟨x, s', rfl, hg⟩ := pI_e hs
    exact hK _ _ _ hg
  | i2c =>
    obtain ⟨x, s', rfl, hg⟩ := pI_e hs
    exact hK _ _ _ hg
  | ineg =>
    obtain ⟨x, s', rfl, hg⟩ := pI_e hs
    exact hK _ _ _ hg
  | l2i =>
    obtain ⟨x, s', rfl, hg⟩ := pJ_e hs
    exact hK _ _ _ hg
  | dup =>
    revert hs
    show (p1 st fun v s' => K L (v :: v :: s') h) → p1 st fun v s' => K' L (v :: v :: s') h
    exact p1_m fun v s' z => hK _ _ _ z
  | dup2 =>
    revert hs
    show (p1 st fun v s1 => p1 s1 fun u s2 => K L (v :: u :: v :: u :: s2) h) → p1 st fun v s1 => p1 s1 fun u s2 => K' L (v :: u :: v :: u :: s2) h
    exact p1_m fun v s' => p1_m fun u s2 z => hK _ _ _ z
  | pop =>
    revert hs
    show (p1 st fun v s' => K L s' h) → p1 st fun v s' => K' L s' h
    exact p1_m fun v s' z => hK _ _ _ z
  | arraylength =>
    obtain ⟨r, s', rfl, ho, hg⟩ := pR_e hs
    exact ⟨ho, hK _ _ _ hg⟩
  | iaload =>
    obtain ⟨i, s', rfl, hs1⟩ := pI_e hs
    obtain ⟨r, s', rfl, ho, hg⟩ := pR_e hs1
    exact ⟨ho, hK _ _ _ hg⟩
  | laload =>
    obtain ⟨i, s', rfl, hs1⟩ := pI_e hs
    obtain ⟨r, s', rfl, ho, hg⟩ := pR_e hs1
    exact ⟨ho, hK _ _ _ hg⟩
  | baload =>
    obtain ⟨i, s', rfl, hs1⟩ := pI_e hs
    obtain ⟨r, s', rfl, ho, hg⟩ := pR_e hs1
    exact ⟨ho, hK _ _ _ hg⟩
  | aaload =>
    obtain ⟨i, s', rfl, hs1⟩ := pI_e hs
    obtain ⟨r, s', rfl, ho, hg⟩ := pR_e hs1
    exact ⟨ho, hK _ _ _ hg⟩
  | iastore =>
    obtain ⟨v, s', rfl, hs0⟩ := pI_e hs
    obtain ⟨i, s', rfl, hs1⟩ := pI_e hs0
    obtain ⟨r, s', rfl, ho, hg⟩ := pR_e hs1
    exact ⟨ho, hK _ _ _ hg⟩
  | bastore =>
    obtain ⟨v, s', rfl, hs0⟩ := pI_e hs
    obtain ⟨i, s', rfl, hs1⟩ := pI_e hs0
    obtain ⟨r, s', rfl, ho, hg⟩ := pR_e hs1
    exact ⟨ho, hK _ _ _ hg⟩
  | lastore =>
    obtain ⟨v, s', rfl, hs0⟩ := pJ_e hs
    obtain ⟨i, s', rfl, hs1⟩ := pI_e hs0
    obtain ⟨r, s', rfl, ho, hg⟩ := pR_e hs1
    exact ⟨ho, hK _ _ _ hg⟩
  | getfield k =>
    revert hs
    show (pR st fun r s' => gfO a b t h r fun v => K L (v :: s') h) → pR st fun r s' => gfO a b t h r fun v => K' L (v :: s') h
    exact pR_m fun r s' => gfO_m fun v z => hK _ _ _ z
  | putfield k =>
    revert hs
    show (pfO a b t st h fun s' h' => K L s' h') → pfO a b t st h fun s' h' => K' L s' h'
    exact pfO_m fun s' h' z => hK _ _ _ z
  | _ => exact (hs : False).elim
end
def bok (m : Mt) : Nat → List Ins → Bool
  | _, [] => true
  | pc, x :: t => decide (decode m.2.1 pc = .ok (x.1, il x.1)) && aok m x && bok m (pc + il x.1) t
def bl : List Ins → Nat
  | [] => 0
  | x :: t => il x.1 + bl t
theorem run_mono {K K' : Lc → List Value → hp → Prop} (hK : ∀ L st h, K L st h → K' L st h) : ∀ (b : List Ins) {L : Lc} {st : List Value} {h : hp}, run b L st h K → run b L st h K'
  | [], _, _, _, hs => hK _ _ _ hs
  | x :: t, _, _, _, hs => stp_mono (fun _ _ _ z => run_mono hK t z) x hs
section
variable {w : Wd} {m : Mt} {p : Program} {e : Env} {R : Room} {s : State} {mid : MethodId} {args : Array Value} {below : List Frame} {meth : Method} {c : Code} {Q : State → Prop} {n0 z0 : Nat × Nat}
theorem run_ok (C : Cx w m p s mid args meth c) : ∀ (b : List Ins) {pc : Nat} {L : Lc} {st : List Value} {h : hp}, bok m pc b = true → run b L st h (fun L' st' h' => JW w m p e R s mid args below meth c Q n0 z0 (pc + bl b) L' st' h') → JW w m p e R s mid args below meth c Q n0 z0 pc L st h
  | [], _, _, _, _, _, hs => hs
  | x :: t, pc, L, st, h, hb, hs => by
    have hb' : (decide (decode m.2.1 pc = .ok (x.1, il x.1)) && aok m x && bok m (pc + il x.1) t) = true := hb
    simp only [Bool.and_eq_true, decide_eq_true_eq] at hb'
    refine stp_ok C x hb'.1.1 hb'.1.2 (stp_mono (fun L1 st1 h1 z => ?_) x hs)
    refine run_ok C t hb'.2 ?_
    have e1 : pc + bl (x :: t) = pc + il x.1 + bl t := by show pc + (il x.1 + bl t) = _; omega
    rw [e1] at z
    exact z
end
