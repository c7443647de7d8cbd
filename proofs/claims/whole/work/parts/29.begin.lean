/-! The law's beginning: both are made, then its loop. -/
def szK (q : Nat × Nat) : Nat := if q.1 < 12 then (cF q.1).length else q.2
/-- two pictures that tell the same of every place that lives -/
def eqB (h g : hp) : Prop := hN g = hN h ∧ hZ g = hZ h ∧ ∀ r, 16 ≤ r → r < hN h → hK g r = hK h r ∧ ∀ j, j < szK (hK h r) → hI g r j = hI h r j ∧ hL g r j = hL h r j ∧ hR g r j = hR h r j
theorem rd_e1 {h g : hp} {r j : Nat} (q : hI g r j = hI h r j ∧ hL g r j = hL h r j ∧ hR g r j = hR h r j) (t : Nat) : rd t g r j = rd t h r j := by
  obtain ⟨q1, q2, q3⟩ := q
  match t with
  | 0 => show Value.int (hI g r j) = .int (hI h r j); rw [q1]
  | 1 => show Value.long (hL g r j) = .long (hL h r j); rw [q2]
  | t + 2 => show rv (hR g r j) = rv (hR h r j); rw [q3]
theorem cOK.sameB {w : Wd} {U : State} {H : Heap} {h g : hp} {r : Nat} (hk : hK g r = hK h r ∧ ∀ j, j < szK (hK h r) → hI g r j = hI h r j ∧ hL g r j = hL h r j ∧ hR g r j = hR h r j) (k : cOK w U H h r) : cOK w U H g r := by
  obtain ⟨hk, he⟩ := hk
  obtain ⟨cell, h1, h2⟩ := k
  refine ⟨cell, h1, ?_⟩
  rw [hk]
  rcases h2 with ⟨a, b, c, d, f⟩ | ⟨a, b, c, d, f, g', i⟩
  · exact Or.inl ⟨a, b, c, d, fun j hj => by rw [rd_e1 (he j (by unfold szK; rw [if_pos a]; exact hj))]; exact f j hj⟩
  · exact Or.inr ⟨a, b, c, d, f, g', fun j hj => by rw [rd_e1 (he j (by unfold szK; rw [if_neg (by omega)]; exact hj))]; exact i j hj⟩
theorem Sim.eqB {w : Wd} {s : State} {H : Heap} {h g : hp} (S : Sim w s H h) (q : eqB h g) : Sim w s H g := by
  obtain ⟨k1, k2, k3, k4, k5⟩ := S
  obtain ⟨q1, q2, q3⟩ := q
  exact ⟨by rw [q1]; exact k1, by rw [q1]; exact k2, fun r r1 r2 => (k3 r r1 (by rw [← q1]; exact r2)).sameB (q3 r r1 (by rw [← q1]; exact r2)), k4, k5⟩
section
variable {w : Wd} {m y : Mt} {p : Program} {e : Env} {R : Room} {s : State} {mid : MethodId} {args : Array Value} {below : List Frame} {meth : Method} {c : Code} {Q : State → Prop} {n0 z0 : Nat × Nat} {pc idx n D : Nat} {L : Lc} {st rest av : List Value} {h g h1 : hp} {r : Option Value}
theorem JW.eqB (q : eqB h g) (kk : JW w m p e R s mid args below meth c Q n0 z0 pc L st g) : JW w m p e R s mid args below meth c Q n0 z0 pc L st h := by
  intro H locs ls hS hl hlo hn hz
  obtain ⟨q1, q2, q3⟩ := id q
  have := kk H locs ls (hS.eqB q) hl hlo (by rw [q1]; exact hn) (by rw [q2]; exact hz)
  rw [q1, q2] at this
  exact this
theorem JW.callI {q : Nat} (C : Cx w m p s mid args meth c) (hk : KIn m.1.cls idx y n) (hd : decode m.2.1 pc = .ok (.invokespecial idx, 3)) (hc : Cl w D y (.ref q :: av) h r h1) (hlen : av.length = n) (hcat : (rest.map fun v => v.category).sum ≤ 8)
    (hR : D + 1 ≤ R.frames ∧ 8 + (y.2.2.1 + 11) + 40 * D ≤ R.locals) (hRc : n0.2 - n0.1 ≤ R.cells ∧ z0.2 - z0.1 ≤ R.slots) (hle : hN h1 ≤ n0.2 ∧ hZ h1 ≤ z0.2)
    (kk : JW w m p e R s mid args below meth c Q n0 z0 (pc + 3) L (r.toList ++ rest) h1) : JW w m p e R s mid args below meth c Q n0 z0 pc L (av.reverse ++ .ref q :: rest) h := by
  obtain ⟨k1, ⟨k2, k7, k8⟩, k3, k4, k5, k6⟩ := hk
  obtain ⟨c1, c2, hM⟩ := hc
  intro H locs ls hS hl hlo hn hz
  obtain ⟨hx, hb, hml, hown, hts, hr, hlk, hnm, hKU⟩ := id C
  have hroom : (hN h - n0.1) + (hN h1 - hN h) ≤ R.cells ∧ (hZ h - z0.1) + (hZ h1 - hZ h) ≤ R.slots := by
    have a1 := hn.1; have a2 := hz.1; have a3 := hle.1; have a4 := hle.2; have a5 := hRc.1; have a6 := hRc.2
    omega
  refine go_on (va_runI ⟨hx, hb, hml, hown, hts⟩ hM ⟨callB_of (ret := none) n hts (show GoodIn lw_ok (wsM y) from ok_in k3) (show wsM y = Cond.code y.1 y.2.1 y.2.2.1 none :: lw_ok by unfold wsM; rw [k8]) rfl rfl (hts _ k4) (hts _ k1) k5 hR, k7, hts _ k2⟩ (As := av.map (cv w)) (b := adr w q) ⟨Pm_blind, Pm_at hS hKU⟩ rfl (by rw [List.length_map]; exact hlen) hl.1 (rest := rest.map (cv w)) (by rw [List.map_append, List.map_reverse]; rfl) (lv_room (by rw [catS]; exact hcat)) hd hroom) hlo fun H1 locs1 hS1 hlo1 => ?_
  have := kk H1 locs1 ls hS1 hl hlo1 ⟨Nat.le_trans hn.1 c1, hle.1⟩ ⟨Nat.le_trans hz.1 c2, hle.2⟩
  refine W.cs (show _ = hN h1 - n0.1 from ?_) (show _ = hZ h1 - z0.1 from ?_) ?_
  · have a1 := hn.1; show (hN h - n0.1) + (hN h1 - hN h) = hN h1 - n0.1; omega
  · have a2 := hz.1; show (hZ h - z0.1) + (hZ h1 - hZ h) = hZ h1 - z0.1; omega
  · rw [List.map_append] at this
    cases r <;> exact this
end
def nR : Nat → Nat → Option Nat := fun _ _ => none
def eR : Nat → Nat → Option Nat := R_M_init (R_X_init nR)
def eS (S : hs) : hs := S_M_init (S_X_init S)
theorem eR_ok : ((List.range 213).all fun r => (List.range (szK (bif Nat.beq r 32 then (20, 0) else tK r))).all fun j => decide (eR r j = tR none r j)) = true := by decide +kernel
theorem tR32 (j : Nat) : tR none 32 j = none := rfl
theorem eR32 (j : Nat) : eR 32 j = none := by
  have hz : Zb 34 ((fun _ _ => 0), (fun _ _ => 0)) nR := fun _ _ _ => ⟨rfl, rfl, rfl⟩
  unfold eR R_M_init
  simp only [up2_o (show (32 : Nat) ≠ 191 by decide), up2_o (show (32 : Nat) ≠ 196 by decide), up2_o (show (32 : Nat) ≠ 197 by decide)]
  unfold R_X_init R_H_init R_W_init R_R_init R_T_init_81 R_T_init_34 R_A_init_74 R_A_init_121 R_A_init_129
  simp only [up2, rowsR]
  rfl
theorem begin_eq {n : Nat} {tk : Nat → Nat} {S : hs} : eqB (pq (0, n, tk, none) 213 4364 S eR) (mk (0, n, tk, none) S) := by
  refine ⟨rfl, rfl, fun r r1 r2 => ⟨rfl, fun j hj => ⟨rfl, rfl, ?_⟩⟩⟩
  have r2 : r < 213 := r2
  have e0 : R0 (0, n, tk, none) r j = tR none r j := by
    unfold R0
    rw [show Nat.blt r 213 = true from Nat.ble_eq_true_of_le r2]; rfl
  show R0 (0, n, tk, none) r j = eR r j
  rw [e0]
  by_cases q : r = 32
  · subst q; rw [tR32, eR32]
  · have h1 := List.all_eq_true.mp eR_ok r (List.mem_range.mpr r2)
    have hb : Nat.beq r 32 = false := by cases hb : Nat.beq r 32 with | false => rfl | true => exact absurd (Nat.eq_of_beq_eq_true hb) q
    have hK' : hK (pq (0, n, tk, none) 213 4364 S eR) r = tK r := K0_at (c := (0, n, tk, none)) (by rw [show Nat.blt r 213 = true from Nat.ble_eq_true_of_le r2, hb]; rfl)
    rw [hK'] at hj
    rw [hb] at h1
    exact (of_decide_eq_true (List.all_eq_true.mp h1 j (List.mem_range.mpr hj))).symm
theorem d_law_0 : decode m_law.2.1 0 = .ok (.new 7, 3) := by decide +kernel
theorem d_law_4 : decode m_law.2.1 4 = .ok (.invokespecial 9, 3) := by decide +kernel
theorem d_law_8 : decode m_law.2.1 8 = .ok (.new 10, 3) := by decide +kernel
theorem d_law_12 : decode m_law.2.1 12 = .ok (.invokespecial 12, 3) := by decide +kernel
def b_law_3 : List Ins := [(.dup, 0, 0, 0)]
theorem k_law_3 : bok m_law 3 b_law_3 = true := by decide +kernel
def b_law_7 : List Ins := [(.astore_n 1, 0, 0, 0)]
theorem k_law_7 : bok m_law 7 b_law_7 = true := by decide +kernel
def b_law_11 : List Ins := [(.dup, 0, 0, 0)]
theorem k_law_11 : bok m_law 11 b_law_11 = true := by decide +kernel
def b_law_15 : List Ins := [(.astore_n 2, 0, 0, 0), (.iconst (0), 0, 0, 0), (.istore_n 3, 0, 0, 0)]
theorem k_law_15 : bok m_law 15 b_law_15 = true := by decide +kernel
theorem okC_law_7 : Cond.classLink "LeftTownLaw" 7 (cN 0) ∈ lw_ok := by decide +kernel
theorem okC_law_10 : Cond.classLink "LeftTownLaw" 10 (cN 11) ∈ lw_ok := by decide +kernel
set_option maxHeartbeats 2000000 in
theorem lw_begin {w : Wd} {p : Program} {e : Env} {s : State} {mid : MethodId} {b : Nat} {below : List Frame} {meth : Method} {c : Code} (C : Cx w m_law p s mid #[Value.ref b] meth c) (hM : MAr w) {n : Nat} {tk : Nat → Nat} {S : hs} (hz : Zb 33 S nR) (kk : JL w p e s mid b below meth c 18 [some (.ref 32), some (.ref 33), some (.ref 191), some (.int 0)] [] (mk (0, n, tk, none) (eS S))) : JL w p e s mid b below meth c 0 [some (.ref 32), none, none, none] [] (pq (0, n, tk, none) 33 0 S nR) := by
  refine JW.newO (ci := 0) C (by decide) okC_law_7 d_law_0 ⟨Nat.le_of_ble_eq_true rfl, Nat.le_of_ble_eq_true rfl⟩ ⟨Nat.le_of_ble_eq_true rfl, Nat.le_of_ble_eq_true rfl⟩ (pq_born (l := 9) hz rfl) (show JL w p e s mid b below meth c 3 [some (.ref 32), none, none, none] [.ref 33] (pq (0, n, tk, none) 34 9 S nR) from ?_)
  have hz : Zb 34 S nR := hz.up (Nat.le_of_ble_eq_true rfl)
  refine run_ok C b_law_3 k_law_3 (show JL w p e s mid b below meth c 4 [some (.ref 32), none, none, none] [.ref 33, .ref 33] (pq (0, n, tk, none) 34 9 S nR) from ?_)
  refine JW.callI (y := m_X_init) (av := []) (rest := [.ref 33]) (q := 33) C l_law_9 d_law_4 (c_X_init w hM 0 (0, n, tk, none) S nR hz) rfl (Nat.le_of_ble_eq_true rfl) (D_ok (by decide) (by decide)) ⟨Nat.le_of_ble_eq_true rfl, Nat.le_of_ble_eq_true rfl⟩ ⟨Nat.le_of_ble_eq_true rfl, Nat.le_of_ble_eq_true rfl⟩ (show JL w p e s mid b below meth c 7 [some (.ref 32), none, none, none] [.ref 33] (pq (0, n, tk, none) 191 2770 (S_X_init S) (R_X_init nR)) from ?_)
  have hz := Z_X_init hz
  refine run_ok C b_law_7 k_law_7 (show JL w p e s mid b below meth c 8 [some (.ref 32), some (.ref 33), none, none] [] (pq (0, n, tk, none) 191 2770 (S_X_init S) (R_X_init nR)) from ?_)
  refine JW.newO (ci := 11) C (by decide) okC_law_10 d_law_8 ⟨Nat.le_of_ble_eq_true rfl, Nat.le_of_ble_eq_true rfl⟩ ⟨Nat.le_of_ble_eq_true rfl, Nat.le_of_ble_eq_true rfl⟩ (pq_born (l := 35) hz rfl) (show JL w p e s mid b below meth c 11 [some (.ref 32), some (.ref 33), none, none] [.ref 191] (pq (0, n, tk, none) 192 2805 (S_X_init S) (R_X_init nR)) from ?_)
  have hz : Zb 192 (S_X_init S) (R_X_init nR) := hz.up (Nat.le_of_ble_eq_true rfl)
  refine run_ok C b_law_11 k_law_11 (show JL w p e s mid b below meth c 12 [some (.ref 32), some (.ref 33), none, none] [.ref 191, .ref 191] (pq (0, n, tk, none) 192 2805 (S_X_init S) (R_X_init nR)) from ?_)
  refine JW.callI (y := m_M_init) (av := []) (rest := [.ref 191]) (q := 191) C l_law_12 d_law_12 (c_M_init w hM 0 (0, n, tk, none) (S_X_init S) (R_X_init nR) hz) rfl (Nat.le_of_ble_eq_true rfl) (D_ok (by decide) (by decide)) ⟨Nat.le_of_ble_eq_true rfl, Nat.le_of_ble_eq_true rfl⟩ ⟨Nat.le_of_ble_eq_true rfl, Nat.le_of_ble_eq_true rfl⟩ (show JL w p e s mid b below meth c 15 [some (.ref 32), some (.ref 33), none, none] [.ref 191] (pq (0, n, tk, none) 213 4364 (eS S) eR) from ?_)
  refine run_ok C b_law_15 k_law_15 (show JL w p e s mid b below meth c 18 [some (.ref 32), some (.ref 33), some (.ref 191), some (.int 0)] [] (pq (0, n, tk, none) 213 4364 (eS S) eR) from ?_)
  exact JW.eqB begin_eq kk
