/-! A thing is made. -/
def cut (S : hs) (n : Nat) : hs := ((fun r j => if r < n then S.1 r j else 0), fun r j => if r < n then S.2 r j else 0)
def cutR (R : Nat → Nat → Option Nat) (n : Nat) : Nat → Nat → Option Nat := fun r j => if r < n then R r j else none
def kNw (k : cx) (ci : Nat) : cx := (k.1 + 1, k.2.1, (fun r => if r = 213 + 2 * k.1 then ci else k.2.2.1 r), k.2.2.2)
def kLt (k : cx) (v : Option Nat) : cx := (k.1, k.2.1, k.2.2.1, v)
def tS (S : hs) (t : Nat) (x y : Int32) : hs := uI (uI (cut S t) t 0 x) t 1 y
theorem cut_Z {S : hs} {R : Nat → Nat → Option Nat} {n : Nat} : Zb n (cut S n) (cutR R n) := fun r hr j => ⟨if_neg (by omega), if_neg (by omega), if_neg (by omega)⟩
section
variable {k : cx} {S : hs} {ci r : Nat}
theorem K0_n0 : K0 (kNw k ci) (213 + 2 * k.1) = (ci, 4) := by
  unfold K0
  rw [nblt (by omega), show (213 + 2 * k.1) % 2 = 1 from by omega]
  show ((if 213 + 2 * k.1 = 213 + 2 * k.1 then ci else k.2.2.1 (213 + 2 * k.1)), 4) = (ci, 4)
  rw [if_pos rfl]
theorem K0_n1 : K0 (kNw k ci) (213 + 2 * k.1 + 1) = (20, 30) := by
  unfold K0
  rw [nblt (by omega), show (213 + 2 * k.1 + 1) % 2 = 0 from by omega]; rfl
theorem K0_old (h : r < 213 + 2 * k.1) : K0 (kNw k ci) r = K0 k r := by
  unfold K0
  have e : (kNw k ci).2.2.1 r = k.2.2.1 r := if_neg (by omega)
  rw [e]; rfl
theorem new_born : born (mk k S) (pq (kNw k ci) (213 + 2 * k.1 + 1) (4364 + 34 * k.1 + 4) (cut S (213 + 2 * k.1)) (cutR (R0 k) (213 + 2 * k.1))) ci 4 :=
  ⟨rfl, rfl, K0_n0, cut_Z _ (Nat.le_refl _), fun r hr => ⟨K0_old hr, fun j => ⟨if_pos hr, if_pos hr, if_pos hr⟩⟩⟩
theorem nw_end {S' : hs} : eqv (pq (kNw k ci) (213 + 2 * k.1 + 1 + 1) (4364 + 34 * k.1 + 4 + 30) S' (up2 (cutR (R0 k) (213 + 2 * k.1)) (213 + 2 * k.1) 2 (some (213 + 2 * k.1 + 1)))) (mk (kNw k ci) S') := by
  refine ⟨?_, ?_, fun r hr => ⟨rfl, fun j => ⟨rfl, rfl, ?_⟩⟩⟩
  · show 213 + 2 * (k.1 + 1) = 213 + 2 * k.1 + 1 + 1; omega
  · show 4364 + 34 * (k.1 + 1) = 4364 + 34 * k.1 + 4 + 30; omega
  · have hr : r < 213 + 2 * k.1 + 1 + 1 := hr
    show R0 k r j = up2 (cutR (R0 k) (213 + 2 * k.1)) (213 + 2 * k.1) 2 (some (213 + 2 * k.1 + 1)) r j
    by_cases h1 : r < 213 + 2 * k.1
    · rw [up2_o (by omega)]; exact (if_pos h1).symm
    · by_cases h2 : r = 213 + 2 * k.1
      · subst h2
        have e : R0 k (213 + 2 * k.1) j = bif Nat.beq j 2 then some (213 + 2 * k.1 + 1) else none := by
          unfold R0
          rw [nblt (by omega), show (213 + 2 * k.1) % 2 = 1 from by omega]; rfl
        rw [e]
        by_cases h3 : j = 2
        · subst h3; rw [up2_s]; rfl
        · rw [up2_n h3]
          have : Nat.beq j 2 = false := by cases hb : Nat.beq j 2 with | false => rfl | true => exact absurd (Nat.eq_of_beq_eq_true hb) h3
          rw [this]
          exact (if_neg h1).symm
      · have h4 : r = 213 + 2 * k.1 + 1 := by omega
        subst h4
        rw [up2_o (by omega)]
        have e : R0 k (213 + 2 * k.1 + 1) j = none := by
          unfold R0
          rw [nblt (by omega), show (213 + 2 * k.1 + 1) % 2 = 0 from by omega]; rfl
        rw [e]; exact (if_neg h1).symm
theorem okO_n {n z : Nat} {S' : hs} {R : Nat → Nat → Option Nat} (hc : 6 ≤ ci ∧ ci ≤ 10) (hn : 213 + 2 * k.1 < n) : okO (pq (kNw k ci) n z S' R) (213 + 2 * k.1) 12 := by
  refine ⟨by omega, hn, ?_, ?_⟩
  · show (K0 (kNw k ci) (213 + 2 * k.1)).1 < 12; rw [K0_n0]; show ci < 12; omega
  · show subC (K0 (kNw k ci) (213 + 2 * k.1)).1 12 = true; rw [K0_n0]
    have : ci = 6 ∨ ci = 7 ∨ ci = 8 ∨ ci = 9 ∨ ci = 10 := by omega
    rcases this with rfl | rfl | rfl | rfl | rfl <;> decide
theorem le_n1 {S' : hs} {S1 : hs} {R : Nat → Nat → Option Nat} : hN (pq (kNw k ci) (213 + 2 * k.1 + 1) (4364 + 34 * k.1 + 4) S' R) ≤ hN (mk (kNw k ci) S1) ∧ hZ (pq (kNw k ci) (213 + 2 * k.1 + 1) (4364 + 34 * k.1 + 4) S' R) ≤ hZ (mk (kNw k ci) S1) := by
  constructor
  · show 213 + 2 * k.1 + 1 ≤ 213 + 2 * (k.1 + 1); omega
  · show 4364 + 34 * k.1 + 4 ≤ 4364 + 34 * (k.1 + 1); omega
theorem le_n2 {S' : hs} {S1 : hs} {R : Nat → Nat → Option Nat} : hN (pq (kNw k ci) (213 + 2 * k.1 + 1 + 1) (4364 + 34 * k.1 + 4 + 30) S' R) ≤ hN (mk (kNw k ci) S1) ∧ hZ (pq (kNw k ci) (213 + 2 * k.1 + 1 + 1) (4364 + 34 * k.1 + 4 + 30) S' R) ≤ hZ (mk (kNw k ci) S1) := by
  constructor
  · show 213 + 2 * k.1 + 1 + 1 ≤ 213 + 2 * (k.1 + 1); omega
  · show 4364 + 34 * k.1 + 4 + 30 ≤ 4364 + 34 * (k.1 + 1); omega
theorem le_kN {S' : hs} : hN (mk k S) ≤ hN (mk (kNw k ci) S') ∧ hZ (mk k S) ≤ hZ (mk (kNw k ci) S') := by
  constructor
  · show 213 + 2 * k.1 ≤ 213 + 2 * (k.1 + 1); omega
  · show 4364 + 34 * k.1 ≤ 4364 + 34 * (k.1 + 1); omega
end
def b_G_init_0_1 : List Ins := [(.aload_n 0, 0, 0, 0)]
theorem k_G_init_0_1 : bok m_G_init 0 b_G_init_0_1 = true := by decide +kernel
def b_G_init_4_2 : List Ins := [(.aload_n 0, 0, 0, 0), (.bipush (30), 0, 0, 0)]
theorem k_G_init_4_2 : bok m_G_init 4 b_G_init_4_2 = true := by decide +kernel
def b_G_init_9_7 : List Ins := [(.putfield 9, 12, 2, 2), (.aload_n 0, 0, 0, 0), (.iload_n 1, 0, 0, 0), (.putfield 15, 12, 0, 0), (.aload_n 0, 0, 0, 0), (.iload_n 2, 0, 0, 0), (.putfield 19, 12, 1, 0)]
theorem k_G_init_9_7 : bok m_G_init 9 b_G_init_9_7 = true := by decide +kernel
theorem d_G_init_1 : decode m_G_init.2.1 1 = .ok (.invokespecial 3, 3) := by decide +kernel
theorem d_G_init_7 : decode m_G_init.2.1 7 = .ok (.newarray .int, 2) := by decide +kernel
theorem d_G_init_22 : decode m_G_init.2.1 22 = .ok (.return_, 1) := by decide +kernel
theorem okL_G_3 : Cond.methodLink "LeftTown$Thing" 3 Lib.objectInit ∈ lw_ok := by decide +kernel
theorem c_G_init (w : Wd) (d : Nat) (k : cx) (S : hs) (ci : Nat) (x y : Int32) (hc : 6 ≤ ci ∧ ci ≤ 10) : Cl w (d + 1) m_G_init [.ref (213 + 2 * k.1), .int x, .int y] (pq (kNw k ci) (213 + 2 * k.1 + 1) (4364 + 34 * k.1 + 4) (cut S (213 + 2 * k.1)) (cutR (R0 k) (213 + 2 * k.1))) none (mk (kNw k ci) (tS S (213 + 2 * k.1) x y)) := by
  refine Cl.of le_n1.1 le_n1.2 (by decide +kernel) (Nat.le_of_ble_eq_true rfl) ?_
  generalize hN (pq (kNw k ci) (213 + 2 * k.1 + 1) (4364 + 34 * k.1 + 4) (cut S (213 + 2 * k.1)) (cutR (R0 k) (213 + 2 * k.1))) = n0
  generalize hZ (pq (kNw k ci) (213 + 2 * k.1 + 1) (4364 + 34 * k.1 + 4) (cut S (213 + 2 * k.1)) (cutR (R0 k) (213 + 2 * k.1))) = z0
  show J w (d + 1) m_G_init (n0, z0, none, (mk (kNw k ci) (tS S (213 + 2 * k.1) x y))) 0 [some (.ref (213 + 2 * k.1)), some (.int x), some (.int y)] [] (pq (kNw k ci) (213 + 2 * k.1 + 1) (4364 + 34 * k.1 + 4) (cut S (213 + 2 * k.1)) (cutR (R0 k) (213 + 2 * k.1)))
  refine J.run b_G_init_0_1 k_G_init_0_1 rfl (show J w (d + 1) m_G_init (n0, z0, none, (mk (kNw k ci) (tS S (213 + 2 * k.1) x y))) 1 [some (.ref (213 + 2 * k.1)), some (.int x), some (.int y)] [.ref (213 + 2 * k.1)] (pq (kNw k ci) (213 + 2 * k.1 + 1) (4364 + 34 * k.1 + 4) (cut S (213 + 2 * k.1)) (cutR (R0 k) (213 + 2 * k.1))) from ?_)
  refine J.objI (r := (213 + 2 * k.1)) okL_G_3 d_G_init_1 (Nat.le_of_ble_eq_true rfl) (show J w (d + 1) m_G_init (n0, z0, none, (mk (kNw k ci) (tS S (213 + 2 * k.1) x y))) 4 [some (.ref (213 + 2 * k.1)), some (.int x), some (.int y)] [] (pq (kNw k ci) (213 + 2 * k.1 + 1) (4364 + 34 * k.1 + 4) (cut S (213 + 2 * k.1)) (cutR (R0 k) (213 + 2 * k.1))) from ?_)
  refine J.run b_G_init_4_2 k_G_init_4_2 rfl (show J w (d + 1) m_G_init (n0, z0, none, (mk (kNw k ci) (tS S (213 + 2 * k.1) x y))) 7 [some (.ref (213 + 2 * k.1)), some (.int x), some (.int y)] [.int (30 : Int32), .ref (213 + 2 * k.1)] (pq (kNw k ci) (213 + 2 * k.1 + 1) (4364 + 34 * k.1 + 4) (cut S (213 + 2 * k.1)) (cutR (R0 k) (213 + 2 * k.1))) from ?_)
  refine J.newA (k := 20) (N := 30) (by decide) rfl okY_20 d_G_init_7 (by decide) rfl (by decide) le_n2 (pq_born (cut_Z.up (by omega)) K0_n1) (show J w (d + 1) m_G_init (n0, z0, none, (mk (kNw k ci) (tS S (213 + 2 * k.1) x y))) 9 [some (.ref (213 + 2 * k.1)), some (.int x), some (.int y)] [.ref (213 + 2 * k.1 + 1), .ref (213 + 2 * k.1)] (pq (kNw k ci) (213 + 2 * k.1 + 1 + 1) (4364 + 34 * k.1 + 4 + 30) (cut S (213 + 2 * k.1)) (cutR (R0 k) (213 + 2 * k.1))) from ?_)
  refine J.run b_G_init_9_7 k_G_init_9_7 rfl (And.intro (okO_n (n := 213 + 2 * k.1 + 1 + 1) (z := 4364 + 34 * k.1 + 4 + 30) (S' := (cut S (213 + 2 * k.1))) (R := (cutR (R0 k) (213 + 2 * k.1))) hc (by omega)) (And.intro (okO_n (n := 213 + 2 * k.1 + 1 + 1) (z := 4364 + 34 * k.1 + 4 + 30) (S' := (cut S (213 + 2 * k.1))) (R := (up2 (cutR (R0 k) (213 + 2 * k.1)) (213 + 2 * k.1) 2 (some (213 + 2 * k.1 + 1)))) hc (by omega)) (And.intro (okO_n (n := 213 + 2 * k.1 + 1 + 1) (z := 4364 + 34 * k.1 + 4 + 30) (S' := (uI (cut S (213 + 2 * k.1)) (213 + 2 * k.1) 0 x)) (R := (up2 (cutR (R0 k) (213 + 2 * k.1)) (213 + 2 * k.1) 2 (some (213 + 2 * k.1 + 1)))) hc (by omega)) (show J w (d + 1) m_G_init (n0, z0, none, (mk (kNw k ci) (tS S (213 + 2 * k.1) x y))) 22 [some (.ref (213 + 2 * k.1)), some (.int x), some (.int y)] [] (pq (kNw k ci) (213 + 2 * k.1 + 1 + 1) (4364 + 34 * k.1 + 4 + 30) (tS S (213 + 2 * k.1) x y) (up2 (cutR (R0 k) (213 + 2 * k.1)) (213 + 2 * k.1) 2 (some (213 + 2 * k.1 + 1)))) from ?_))))
  refine J.eqv nw_end ?_
  exact J.vret d_G_init_22 rfl rfl
def b_G1_init_0_3 : List Ins := [(.aload_n 0, 0, 0, 0), (.iload_n 1, 0, 0, 0), (.iload_n 2, 0, 0, 0)]
theorem k_G1_init_0_3 : bok m_G1_init 0 b_G1_init_0_3 = true := by decide +kernel
theorem d_G1_init_3 : decode m_G1_init.2.1 3 = .ok (.invokespecial 1, 3) := by decide +kernel
theorem d_G1_init_6 : decode m_G1_init.2.1 6 = .ok (.return_, 1) := by decide +kernel
theorem c_G1_init (w : Wd) (d : Nat) (k : cx) (S : hs) (ci : Nat) (x y : Int32) (hc : 6 ≤ ci ∧ ci ≤ 10) : Cl w (d + 2) m_G1_init [.ref (213 + 2 * k.1), .int x, .int y] (pq (kNw k ci) (213 + 2 * k.1 + 1) (4364 + 34 * k.1 + 4) (cut S (213 + 2 * k.1)) (cutR (R0 k) (213 + 2 * k.1))) none (mk (kNw k ci) (tS S (213 + 2 * k.1) x y)) := by
  refine Cl.of le_n1.1 le_n1.2 (by decide +kernel) (Nat.le_of_ble_eq_true rfl) ?_
  generalize hN (pq (kNw k ci) (213 + 2 * k.1 + 1) (4364 + 34 * k.1 + 4) (cut S (213 + 2 * k.1)) (cutR (R0 k) (213 + 2 * k.1))) = n0
  generalize hZ (pq (kNw k ci) (213 + 2 * k.1 + 1) (4364 + 34 * k.1 + 4) (cut S (213 + 2 * k.1)) (cutR (R0 k) (213 + 2 * k.1))) = z0
  show J w (d + 2) m_G1_init (n0, z0, none, (mk (kNw k ci) (tS S (213 + 2 * k.1) x y))) 0 [some (.ref (213 + 2 * k.1)), some (.int x), some (.int y)] [] (pq (kNw k ci) (213 + 2 * k.1 + 1) (4364 + 34 * k.1 + 4) (cut S (213 + 2 * k.1)) (cutR (R0 k) (213 + 2 * k.1)))
  refine J.run b_G1_init_0_3 k_G1_init_0_3 rfl (show J w (d + 2) m_G1_init (n0, z0, none, (mk (kNw k ci) (tS S (213 + 2 * k.1) x y))) 3 [some (.ref (213 + 2 * k.1)), some (.int x), some (.int y)] [.int y, .int x, .ref (213 + 2 * k.1)] (pq (kNw k ci) (213 + 2 * k.1 + 1) (4364 + 34 * k.1 + 4) (cut S (213 + 2 * k.1)) (cutR (R0 k) (213 + 2 * k.1))) from ?_)
  refine J.callI (y := m_G_init) (av := [.int x, .int y]) (rest := []) (q := (213 + 2 * k.1)) l_G1_1 d_G1_init_3 (c_G_init w d k S ci x y hc) rfl (Nat.le_of_ble_eq_true rfl) ⟨Nat.le_refl _, Nat.le_refl _⟩ (show J w (d + 2) m_G1_init (n0, z0, none, (mk (kNw k ci) (tS S (213 + 2 * k.1) x y))) 6 [some (.ref (213 + 2 * k.1)), some (.int x), some (.int y)] [] (mk (kNw k ci) (tS S (213 + 2 * k.1) x y)) from ?_)
  exact J.vret d_G1_init_6 rfl rfl
def b_G2_init_0_3 : List Ins := [(.aload_n 0, 0, 0, 0), (.iload_n 1, 0, 0, 0), (.iload_n 2, 0, 0, 0)]
theorem k_G2_init_0_3 : bok m_G2_init 0 b_G2_init_0_3 = true := by decide +kernel
theorem d_G2_init_3 : decode m_G2_init.2.1 3 = .ok (.invokespecial 1, 3) := by decide +kernel
theorem d_G2_init_6 : decode m_G2_init.2.1 6 = .ok (.return_, 1) := by decide +kernel
theorem c_G2_init (w : Wd) (d : Nat) (k : cx) (S : hs) (ci : Nat) (x y : Int32) (hc : 6 ≤ ci ∧ ci ≤ 10) : Cl w (d + 2) m_G2_init [.ref (213 + 2 * k.1), .int x, .int y] (pq (kNw k ci) (213 + 2 * k.1 + 1) (4364 + 34 * k.1 + 4) (cut S (213 + 2 * k.1)) (cutR (R0 k) (213 + 2 * k.1))) none (mk (kNw k ci) (tS S (213 + 2 * k.1) x y)) := by
  refine Cl.of le_n1.1 le_n1.2 (by decide +kernel) (Nat.le_of_ble_eq_true rfl) ?_
  generalize hN (pq (kNw k ci) (213 + 2 * k.1 + 1) (4364 + 34 * k.1 + 4) (cut S (213 + 2 * k.1)) (cutR (R0 k) (213 + 2 * k.1))) = n0
  generalize hZ (pq (kNw k ci) (213 + 2 * k.1 + 1) (4364 + 34 * k.1 + 4) (cut S (213 + 2 * k.1)) (cutR (R0 k) (213 + 2 * k.1))) = z0
  show J w (d + 2) m_G2_init (n0, z0, none, (mk (kNw k ci) (tS S (213 + 2 * k.1) x y))) 0 [some (.ref (213 + 2 * k.1)), some (.int x), some (.int y)] [] (pq (kNw k ci) (213 + 2 * k.1 + 1) (4364 + 34 * k.1 + 4) (cut S (213 + 2 * k.1)) (cutR (R0 k) (213 + 2 * k.1)))
  refine J.run b_G2_init_0_3 k_G2_init_0_3 rfl (show J w (d + 2) m_G2_init (n0, z0, none, (mk (kNw k ci) (tS S (213 + 2 * k.1) x y))) 3 [some (.ref (213 + 2 * k.1)), some (.int x), some (.int y)] [.int y, .int x, .ref (213 + 2 * k.1)] (pq (kNw k ci) (213 + 2 * k.1 + 1) (4364 + 34 * k.1 + 4) (cut S (213 + 2 * k.1)) (cutR (R0 k) (213 + 2 * k.1))) from ?_)
  refine J.callI (y := m_G_init) (av := [.int x, .int y]) (rest := []) (q := (213 + 2 * k.1)) l_G2_1 d_G2_init_3 (c_G_init w d k S ci x y hc) rfl (Nat.le_of_ble_eq_true rfl) ⟨Nat.le_refl _, Nat.le_refl _⟩ (show J w (d + 2) m_G2_init (n0, z0, none, (mk (kNw k ci) (tS S (213 + 2 * k.1) x y))) 6 [some (.ref (213 + 2 * k.1)), some (.int x), some (.int y)] [] (mk (kNw k ci) (tS S (213 + 2 * k.1) x y)) from ?_)
  exact J.vret d_G2_init_6 rfl rfl
def b_G4_init_0_3 : List Ins := [(.aload_n 0, 0, 0, 0), (.iload_n 1, 0, 0, 0), (.iload_n 2, 0, 0, 0)]
theorem k_G4_init_0_3 : bok m_G4_init 0 b_G4_init_0_3 = true := by decide +kernel
theorem d_G4_init_3 : decode m_G4_init.2.1 3 = .ok (.invokespecial 1, 3) := by decide +kernel
theorem d_G4_init_6 : decode m_G4_init.2.1 6 = .ok (.return_, 1) := by decide +kernel
theorem c_G4_init (w : Wd) (d : Nat) (k : cx) (S : hs) (ci : Nat) (x y : Int32) (hc : 6 ≤ ci ∧ ci ≤ 10) : Cl w (d + 2) m_G4_init [.ref (213 + 2 * k.1), .int x, .int y] (pq (kNw k ci) (213 + 2 * k.1 + 1) (4364 + 34 * k.1 + 4) (cut S (213 + 2 * k.1)) (cutR (R0 k) (213 + 2 * k.1))) none (mk (kNw k ci) (tS S (213 + 2 * k.1) x y)) := by
  refine Cl.of le_n1.1 le_n1.2 (by decide +kernel) (Nat.le_of_ble_eq_true rfl) ?_
  generalize hN (pq (kNw k ci) (213 + 2 * k.1 + 1) (4364 + 34 * k.1 + 4) (cut S (213 + 2 * k.1)) (cutR (R0 k) (213 + 2 * k.1))) = n0
  generalize hZ (pq (kNw k ci) (213 + 2 * k.1 + 1) (4364 + 34 * k.1 + 4) (cut S (213 + 2 * k.1)) (cutR (R0 k) (213 + 2 * k.1))) = z0
  show J w (d + 2) m_G4_init (n0, z0, none, (mk (kNw k ci) (tS S (213 + 2 * k.1) x y))) 0 [some (.ref (213 + 2 * k.1)), some (.int x), some (.int y)] [] (pq (kNw k ci) (213 + 2 * k.1 + 1) (4364 + 34 * k.1 + 4) (cut S (213 + 2 * k.1)) (cutR (R0 k) (213 + 2 * k.1)))
  refine J.run b_G4_init_0_3 k_G4_init_0_3 rfl (show J w (d + 2) m_G4_init (n0, z0, none, (mk (kNw k ci) (tS S (213 + 2 * k.1) x y))) 3 [some (.ref (213 + 2 * k.1)), some (.int x), some (.int y)] [.int y, .int x, .ref (213 + 2 * k.1)] (pq (kNw k ci) (213 + 2 * k.1 + 1) (4364 + 34 * k.1 + 4) (cut S (213 + 2 * k.1)) (cutR (R0 k) (213 + 2 * k.1))) from ?_)
  refine J.callI (y := m_G_init) (av := [.int x, .int y]) (rest := []) (q := (213 + 2 * k.1)) l_G4_1 d_G4_init_3 (c_G_init w d k S ci x y hc) rfl (Nat.le_of_ble_eq_true rfl) ⟨Nat.le_refl _, Nat.le_refl _⟩ (show J w (d + 2) m_G4_init (n0, z0, none, (mk (kNw k ci) (tS S (213 + 2 * k.1) x y))) 6 [some (.ref (213 + 2 * k.1)), some (.int x), some (.int y)] [] (mk (kNw k ci) (tS S (213 + 2 * k.1) x y)) from ?_)
  exact J.vret d_G4_init_6 rfl rfl
def b_G3_init_0_3 : List Ins := [(.aload_n 0, 0, 0, 0), (.iload_n 1, 0, 0, 0), (.iload_n 2, 0, 0, 0)]
theorem k_G3_init_0_3 : bok m_G3_init 0 b_G3_init_0_3 = true := by decide +kernel
theorem d_G3_init_3 : decode m_G3_init.2.1 3 = .ok (.invokespecial 1, 3) := by decide +kernel
theorem d_G3_init_6 : decode m_G3_init.2.1 6 = .ok (.return_, 1) := by decide +kernel
theorem c_G3_init (w : Wd) (d : Nat) (k : cx) (S : hs) (ci : Nat) (x y : Int32) (hc : 6 ≤ ci ∧ ci ≤ 10) : Cl w (d + 3) m_G3_init [.ref (213 + 2 * k.1), .int x, .int y] (pq (kNw k ci) (213 + 2 * k.1 + 1) (4364 + 34 * k.1 + 4) (cut S (213 + 2 * k.1)) (cutR (R0 k) (213 + 2 * k.1))) none (mk (kNw k ci) (tS S (213 + 2 * k.1) x y)) := by
  refine Cl.of le_n1.1 le_n1.2 (by decide +kernel) (Nat.le_of_ble_eq_true rfl) ?_
  generalize hN (pq (kNw k ci) (213 + 2 * k.1 + 1) (4364 + 34 * k.1 + 4) (cut S (213 + 2 * k.1)) (cutR (R0 k) (213 + 2 * k.1))) = n0
  generalize hZ (pq (kNw k ci) (213 + 2 * k.1 + 1) (4364 + 34 * k.1 + 4) (cut S (213 + 2 * k.1)) (cutR (R0 k) (213 + 2 * k.1))) = z0
  show J w (d + 3) m_G3_init (n0, z0, none, (mk (kNw k ci) (tS S (213 + 2 * k.1) x y))) 0 [some (.ref (213 + 2 * k.1)), some (.int x), some (.int y)] [] (pq (kNw k ci) (213 + 2 * k.1 + 1) (4364 + 34 * k.1 + 4) (cut S (213 + 2 * k.1)) (cutR (R0 k) (213 + 2 * k.1)))
  refine J.run b_G3_init_0_3 k_G3_init_0_3 rfl (show J w (d + 3) m_G3_init (n0, z0, none, (mk (kNw k ci) (tS S (213 + 2 * k.1) x y))) 3 [some (.ref (213 + 2 * k.1)), some (.int x), some (.int y)] [.int y, .int x, .ref (213 + 2 * k.1)] (pq (kNw k ci) (213 + 2 * k.1 + 1) (4364 + 34 * k.1 + 4) (cut S (213 + 2 * k.1)) (cutR (R0 k) (213 + 2 * k.1))) from ?_)
  refine J.callI (y := m_G2_init) (av := [.int x, .int y]) (rest := []) (q := (213 + 2 * k.1)) l_G3_1 d_G3_init_3 (c_G2_init w d k S ci x y hc) rfl (Nat.le_of_ble_eq_true rfl) ⟨Nat.le_refl _, Nat.le_refl _⟩ (show J w (d + 3) m_G3_init (n0, z0, none, (mk (kNw k ci) (tS S (213 + 2 * k.1) x y))) 6 [some (.ref (213 + 2 * k.1)), some (.int x), some (.int y)] [] (mk (kNw k ci) (tS S (213 + 2 * k.1) x y)) from ?_)
  exact J.vret d_G3_init_6 rfl rfl
def b_G5_init_0_3 : List Ins := [(.aload_n 0, 0, 0, 0), (.iload_n 1, 0, 0, 0), (.iload_n 2, 0, 0, 0)]
theorem k_G5_init_0_3 : bok m_G5_init 0 b_G5_init_0_3 = true := by decide +kernel
theorem d_G5_init_3 : decode m_G5_init.2.1 3 = .ok (.invokespecial 1, 3) := by decide +kernel
theorem d_G5_init_6 : decode m_G5_init.2.1 6 = .ok (.return_, 1) := by decide +kernel
theorem c_G5_init (w : Wd) (d : Nat) (k : cx) (S : hs) (ci : Nat) (x y : Int32) (hc : 6 ≤ ci ∧ ci ≤ 10) : Cl w (d + 3) m_G5_init [.ref (213 + 2 * k.1), .int x, .int y] (pq (kNw k ci) (213 + 2 * k.1 + 1) (4364 + 34 * k.1 + 4) (cut S (213 + 2 * k.1)) (cutR (R0 k) (213 + 2 * k.1))) none (mk (kNw k ci) (tS S (213 + 2 * k.1) x y)) := by
  refine Cl.of le_n1.1 le_n1.2 (by decide +kernel) (Nat.le_of_ble_eq_true rfl) ?_
  generalize hN (pq (kNw k ci) (213 + 2 * k.1 + 1) (4364 + 34 * k.1 + 4) (cut S (213 + 2 * k.1)) (cutR (R0 k) (213 + 2 * k.1))) = n0
  generalize hZ (pq (kNw k ci) (213 + 2 * k.1 + 1) (4364 + 34 * k.1 + 4) (cut S (213 + 2 * k.1)) (cutR (R0 k) (213 + 2 * k.1))) = z0
  show J w (d + 3) m_G5_init (n0, z0, none, (mk (kNw k ci) (tS S (213 + 2 * k.1) x y))) 0 [some (.ref (213 + 2 * k.1)), some (.int x), some (.int y)] [] (pq (kNw k ci) (213 + 2 * k.1 + 1) (4364 + 34 * k.1 + 4) (cut S (213 + 2 * k.1)) (cutR (R0 k) (213 + 2 * k.1)))
  refine J.run b_G5_init_0_3 k_G5_init_0_3 rfl (show J w (d + 3) m_G5_init (n0, z0, none, (mk (kNw k ci) (tS S (213 + 2 * k.1) x y))) 3 [some (.ref (213 + 2 * k.1)), some (.int x), some (.int y)] [.int y, .int x, .ref (213 + 2 * k.1)] (pq (kNw k ci) (213 + 2 * k.1 + 1) (4364 + 34 * k.1 + 4) (cut S (213 + 2 * k.1)) (cutR (R0 k) (213 + 2 * k.1))) from ?_)
  refine J.callI (y := m_G4_init) (av := [.int x, .int y]) (rest := []) (q := (213 + 2 * k.1)) l_G5_1 d_G5_init_3 (c_G4_init w d k S ci x y hc) rfl (Nat.le_of_ble_eq_true rfl) ⟨Nat.le_refl _, Nat.le_refl _⟩ (show J w (d + 3) m_G5_init (n0, z0, none, (mk (kNw k ci) (tS S (213 + 2 * k.1) x y))) 6 [some (.ref (213 + 2 * k.1)), some (.int x), some (.int y)] [] (mk (kNw k ci) (tS S (213 + 2 * k.1) x y)) from ?_)
  exact J.vret d_G5_init_6 rfl rfl
def b_X_thingOf_0_1 : List Ins := [(.iload_n 0, 0, 0, 0)]
theorem k_X_thingOf_0_1 : bok m_X_thingOf 0 b_X_thingOf_0_1 = true := by decide +kernel
theorem d_X_thingOf_1 : decode m_X_thingOf.2.1 1 = .ok (.tableswitch (85) (1) (5) #[35, 45, 55, 65, 75], 35) := by decide +kernel
theorem okC_X_327 : Cond.classLink "LeftTown" 327 (cN 6) ∈ lw_ok := by decide +kernel
theorem d_X_thingOf_36 : decode m_X_thingOf.2.1 36 = .ok (.new 327, 3) := by decide +kernel
def b_X_thingOf_39_3 : List Ins := [(.dup, 0, 0, 0), (.iload_n 1, 0, 0, 0), (.iload_n 2, 0, 0, 0)]
theorem k_X_thingOf_39_3 : bok m_X_thingOf 39 b_X_thingOf_39_3 = true := by decide +kernel
theorem d_X_thingOf_42 : decode m_X_thingOf.2.1 42 = .ok (.invokespecial 329, 3) := by decide +kernel
theorem d_X_thingOf_45 : decode m_X_thingOf.2.1 45 = .ok (.areturn, 1) := by decide +kernel
theorem c_X_thing1 (w : Wd) (d : Nat) (k : cx) (S : hs) (x y : Int32) : Cl w (d + 4) m_X_thingOf [.int (1 : Int32), .int x, .int y] (mk k S) (some (.ref (213 + 2 * k.1))) (mk (kNw k 6) (tS S (213 + 2 * k.1) x y)) := by
  refine Cl.of le_kN.1 le_kN.2 (by decide +kernel) (Nat.le_of_ble_eq_true rfl) ?_
  generalize hn0 : hN (mk k S) = n0
  generalize hz0 : hZ (mk k S) = z0
  show J w (d + 4) m_X_thingOf (n0, z0, some (.ref (213 + 2 * k.1)), (mk (kNw k 6) (tS S (213 + 2 * k.1) x y))) 0 [some (.int (1 : Int32)), some (.int x), some (.int y)] [] (mk k S)
  refine J.run b_X_thingOf_0_1 k_X_thingOf_0_1 rfl (show J w (d + 4) m_X_thingOf (n0, z0, some (.ref (213 + 2 * k.1)), (mk (kNw k 6) (tS S (213 + 2 * k.1) x y))) 1 [some (.int (1 : Int32)), some (.int x), some (.int y)] [.int (1 : Int32)] (mk k S) from ?_)
  refine J.tsIn (off := 35) (tgt := 36) d_X_thingOf_1 (by decide) (by decide) (by rfl) rfl ?_
  refine J.newO (ci := 6) (by decide) okC_X_327 d_X_thingOf_36 le_n1 new_born (show J w (d + 4) m_X_thingOf (n0, z0, some (.ref (213 + 2 * k.1)), (mk (kNw k 6) (tS S (213 + 2 * k.1) x y))) 39 [some (.int (1 : Int32)), some (.int x), some (.int y)] [.ref (213 + 2 * k.1)] (pq (kNw k 6) (213 + 2 * k.1 + 1) (4364 + 34 * k.1 + 4) (cut S (213 + 2 * k.1)) (cutR (R0 k) (213 + 2 * k.1))) from ?_)
  refine J.run b_X_thingOf_39_3 k_X_thingOf_39_3 rfl (show J w (d + 4) m_X_thingOf (n0, z0, some (.ref (213 + 2 * k.1)), (mk (kNw k 6) (tS S (213 + 2 * k.1) x y))) 42 [some (.int (1 : Int32)), some (.int x), some (.int y)] [.int y, .int x, .ref (213 + 2 * k.1), .ref (213 + 2 * k.1)] (pq (kNw k 6) (213 + 2 * k.1 + 1) (4364 + 34 * k.1 + 4) (cut S (213 + 2 * k.1)) (cutR (R0 k) (213 + 2 * k.1))) from ?_)
  refine J.callI (y := m_G1_init) (av := [.int x, .int y]) (rest := [.ref (213 + 2 * k.1)]) (q := (213 + 2 * k.1)) l_X_329 d_X_thingOf_42 (c_G1_init w (d + 1) k S 6 x y (by decide)) rfl (Nat.le_of_ble_eq_true rfl) ⟨Nat.le_refl _, Nat.le_refl _⟩ (show J w (d + 4) m_X_thingOf (n0, z0, some (.ref (213 + 2 * k.1)), (mk (kNw k 6) (tS S (213 + 2 * k.1) x y))) 45 [some (.int (1 : Int32)), some (.int x), some (.int y)] [.ref (213 + 2 * k.1)] (mk (kNw k 6) (tS S (213 + 2 * k.1) x y)) from ?_)
  exact J.aret (v := some (213 + 2 * k.1)) d_X_thingOf_45 rfl rfl
theorem okC_X_332 : Cond.classLink "LeftTown" 332 (cN 7) ∈ lw_ok := by decide +kernel
theorem d_X_thingOf_46 : decode m_X_thingOf.2.1 46 = .ok (.new 332, 3) := by decide +kernel
def b_X_thingOf_49_3 : List Ins := [(.dup, 0, 0, 0), (.iload_n 1, 0, 0, 0), (.iload_n 2, 0, 0, 0)]
theorem k_X_thingOf_49_3 : bok m_X_thingOf 49 b_X_thingOf_49_3 = true := by decide +kernel
theorem d_X_thingOf_52 : decode m_X_thingOf.2.1 52 = .ok (.invokespecial 334, 3) := by decide +kernel
theorem d_X_thingOf_55 : decode m_X_thingOf.2.1 55 = .ok (.areturn, 1) := by decide +kernel
theorem c_X_thing2 (w : Wd) (d : Nat) (k : cx) (S : hs) (x y : Int32) : Cl w (d + 4) m_X_thingOf [.int (2 : Int32), .int x, .int y] (mk k S) (some (.ref (213 + 2 * k.1))) (mk (kNw k 7) (tS S (213 + 2 * k.1) x y)) := by
  refine Cl.of le_kN.1 le_kN.2 (by decide +kernel) (Nat.le_of_ble_eq_true rfl) ?_
  generalize hn0 : hN (mk k S) = n0
  generalize hz0 : hZ (mk k S) = z0
  show J w (d + 4) m_X_thingOf (n0, z0, some (.ref (213 + 2 * k.1)), (mk (kNw k 7) (tS S (213 + 2 * k.1) x y))) 0 [some (.int (2 : Int32)), some (.int x), some (.int y)] [] (mk k S)
  refine J.run b_X_thingOf_0_1 k_X_thingOf_0_1 rfl (show J w (d + 4) m_X_thingOf (n0, z0, some (.ref (213 + 2 * k.1)), (mk (kNw k 7) (tS S (213 + 2 * k.1) x y))) 1 [some (.int (2 : Int32)), some (.int x), some (.int y)] [.int (2 : Int32)] (mk k S) from ?_)
  refine J.tsIn (off := 45) (tgt := 46) d_X_thingOf_1 (by decide) (by decide) (by rfl) rfl ?_
  refine J.newO (ci := 7) (by decide) okC_X_332 d_X_thingOf_46 le_n1 new_born (show J w (d + 4) m_X_thingOf (n0, z0, some (.ref (213 + 2 * k.1)), (mk (kNw k 7) (tS S (213 + 2 * k.1) x y))) 49 [some (.int (2 : Int32)), some (.int x), some (.int y)] [.ref (213 + 2 * k.1)] (pq (kNw k 7) (213 + 2 * k.1 + 1) (4364 + 34 * k.1 + 4) (cut S (213 + 2 * k.1)) (cutR (R0 k) (213 + 2 * k.1))) from ?_)
  refine J.run b_X_thingOf_49_3 k_X_thingOf_49_3 rfl (show J w (d + 4) m_X_thingOf (n0, z0, some (.ref (213 + 2 * k.1)), (mk (kNw k 7) (tS S (213 + 2 * k.1) x y))) 52 [some (.int (2 : Int32)), some (.int x), some (.int y)] [.int y, .int x, .ref (213 + 2 * k.1), .ref (213 + 2 * k.1)] (pq (kNw k 7) (213 + 2 * k.1 + 1) (4364 + 34 * k.1 + 4) (cut S (213 + 2 * k.1)) (cutR (R0 k) (213 + 2 * k.1))) from ?_)
  refine J.callI (y := m_G2_init) (av := [.int x, .int y]) (rest := [.ref (213 + 2 * k.1)]) (q := (213 + 2 * k.1)) l_X_334 d_X_thingOf_52 (c_G2_init w (d + 1) k S 7 x y (by decide)) rfl (Nat.le_of_ble_eq_true rfl) ⟨Nat.le_refl _, Nat.le_refl _⟩ (show J w (d + 4) m_X_thingOf (n0, z0, some (.ref (213 + 2 * k.1)), (mk (kNw k 7) (tS S (213 + 2 * k.1) x y))) 55 [some (.int (2 : Int32)), some (.int x), some (.int y)] [.ref (213 + 2 * k.1)] (mk (kNw k 7) (tS S (213 + 2 * k.1) x y)) from ?_)
  exact J.aret (v := some (213 + 2 * k.1)) d_X_thingOf_55 rfl rfl
theorem okC_X_335 : Cond.classLink "LeftTown" 335 (cN 8) ∈ lw_ok := by decide +kernel
theorem d_X_thingOf_56 : decode m_X_thingOf.2.1 56 = .ok (.new 335, 3) := by decide +kernel
def b_X_thingOf_59_3 : List Ins := [(.dup, 0, 0, 0), (.iload_n 1, 0, 0, 0), (.iload_n 2, 0, 0, 0)]
theorem k_X_thingOf_59_3 : bok m_X_thingOf 59 b_X_thingOf_59_3 = true := by decide +kernel
theorem d_X_thingOf_62 : decode m_X_thingOf.2.1 62 = .ok (.invokespecial 337, 3) := by decide +kernel
theorem d_X_thingOf_65 : decode m_X_thingOf.2.1 65 = .ok (.areturn, 1) := by decide +kernel
theorem c_X_thing3 (w : Wd) (d : Nat) (k : cx) (S : hs) (x y : Int32) : Cl w (d + 4) m_X_thingOf [.int (3 : Int32), .int x, .int y] (mk k S) (some (.ref (213 + 2 * k.1))) (mk (kNw k 8) (tS S (213 + 2 * k.1) x y)) := by
  refine Cl.of le_kN.1 le_kN.2 (by decide +kernel) (Nat.le_of_ble_eq_true rfl) ?_
  generalize hn0 : hN (mk k S) = n0
  generalize hz0 : hZ (mk k S) = z0
  show J w (d + 4) m_X_thingOf (n0, z0, some (.ref (213 + 2 * k.1)), (mk (kNw k 8) (tS S (213 + 2 * k.1) x y))) 0 [some (.int (3 : Int32)), some (.int x), some (.int y)] [] (mk k S)
  refine J.run b_X_thingOf_0_1 k_X_thingOf_0_1 rfl (show J w (d + 4) m_X_thingOf (n0, z0, some (.ref (213 + 2 * k.1)), (mk (kNw k 8) (tS S (213 + 2 * k.1) x y))) 1 [some (.int (3 : Int32)), some (.int x), some (.int y)] [.int (3 : Int32)] (mk k S) from ?_)
  refine J.tsIn (off := 55) (tgt := 56) d_X_thingOf_1 (by decide) (by decide) (by rfl) rfl ?_
  refine J.newO (ci := 8) (by decide) okC_X_335 d_X_thingOf_56 le_n1 new_born (show J w (d + 4) m_X_thingOf (n0, z0, some (.ref (213 + 2 * k.1)), (mk (kNw k 8) (tS S (213 + 2 * k.1) x y))) 59 [some (.int (3 : Int32)), some (.int x), some (.int y)] [.ref (213 + 2 * k.1)] (pq (kNw k 8) (213 + 2 * k.1 + 1) (4364 + 34 * k.1 + 4) (cut S (213 + 2 * k.1)) (cutR (R0 k) (213 + 2 * k.1))) from ?_)
  refine J.run b_X_thingOf_59_3 k_X_thingOf_59_3 rfl (show J w (d + 4) m_X_thingOf (n0, z0, some (.ref (213 + 2 * k.1)), (mk (kNw k 8) (tS S (213 + 2 * k.1) x y))) 62 [some (.int (3 : Int32)), some (.int x), some (.int y)] [.int y, .int x, .ref (213 + 2 * k.1), .ref (213 + 2 * k.1)] (pq (kNw k 8) (213 + 2 * k.1 + 1) (4364 + 34 * k.1 + 4) (cut S (213 + 2 * k.1)) (cutR (R0 k) (213 + 2 * k.1))) from ?_)
  refine J.callI (y := m_G3_init) (av := [.int x, .int y]) (rest := [.ref (213 + 2 * k.1)]) (q := (213 + 2 * k.1)) l_X_337 d_X_thingOf_62 (c_G3_init w (d + 0) k S 8 x y (by decide)) rfl (Nat.le_of_ble_eq_true rfl) ⟨Nat.le_refl _, Nat.le_refl _⟩ (show J w (d + 4) m_X_thingOf (n0, z0, some (.ref (213 + 2 * k.1)), (mk (kNw k 8) (tS S (213 + 2 * k.1) x y))) 65 [some (.int (3 : Int32)), some (.int x), some (.int y)] [.ref (213 + 2 * k.1)] (mk (kNw k 8) (tS S (213 + 2 * k.1) x y)) from ?_)
  exact J.aret (v := some (213 + 2 * k.1)) d_X_thingOf_65 rfl rfl
theorem okC_X_338 : Cond.classLink "LeftTown" 338 (cN 9) ∈ lw_ok := by decide +kernel
theorem d_X_thingOf_66 : decode m_X_thingOf.2.1 66 = .ok (.new 338, 3) := by decide +kernel
def b_X_thingOf_69_3 : List Ins := [(.dup, 0, 0, 0), (.iload_n 1, 0, 0, 0), (.iload_n 2, 0, 0, 0)]
theorem k_X_thingOf_69_3 : bok m_X_thingOf 69 b_X_thingOf_69_3 = true := by decide +kernel
theorem d_X_thingOf_72 : decode m_X_thingOf.2.1 72 = .ok (.invokespecial 340, 3) := by decide +kernel
theorem d_X_thingOf_75 : decode m_X_thingOf.2.1 75 = .ok (.areturn, 1) := by decide +kernel
theorem c_X_thing4 (w : Wd) (d : Nat) (k : cx) (S : hs) (x y : Int32) : Cl w (d + 4) m_X_thingOf [.int (4 : Int32), .int x, .int y] (mk k S) (some (.ref (213 + 2 * k.1))) (mk (kNw k 9) (tS S (213 + 2 * k.1) x y)) := by
  refine Cl.of le_kN.1 le_kN.2 (by decide +kernel) (Nat.le_of_ble_eq_true rfl) ?_
  generalize hn0 : hN (mk k S) = n0
  generalize hz0 : hZ (mk k S) = z0
  show J w (d + 4) m_X_thingOf (n0, z0, some (.ref (213 + 2 * k.1)), (mk (kNw k 9) (tS S (213 + 2 * k.1) x y))) 0 [some (.int (4 : Int32)), some (.int x), some (.int y)] [] (mk k S)
  refine J.run b_X_thingOf_0_1 k_X_thingOf_0_1 rfl (show J w (d + 4) m_X_thingOf (n0, z0, some (.ref (213 + 2 * k.1)), (mk (kNw k 9) (tS S (213 + 2 * k.1) x y))) 1 [some (.int (4 : Int32)), some (.int x), some (.int y)] [.int (4 : Int32)] (mk k S) from ?_)
  refine J.tsIn (off := 65) (tgt := 66) d_X_thingOf_1 (by decide) (by decide) (by rfl) rfl ?_
  refine J.newO (ci := 9) (by decide) okC_X_338 d_X_thingOf_66 le_n1 new_born (show J w (d + 4) m_X_thingOf (n0, z0, some (.ref (213 + 2 * k.1)), (mk (kNw k 9) (tS S (213 + 2 * k.1) x y))) 69 [some (.int (4 : Int32)), some (.int x), some (.int y)] [.ref (213 + 2 * k.1)] (pq (kNw k 9) (213 + 2 * k.1 + 1) (4364 + 34 * k.1 + 4) (cut S (213 + 2 * k.1)) (cutR (R0 k) (213 + 2 * k.1))) from ?_)
  refine J.run b_X_thingOf_69_3 k_X_thingOf_69_3 rfl (show J w (d + 4) m_X_thingOf (n0, z0, some (.ref (213 + 2 * k.1)), (mk (kNw k 9) (tS S (213 + 2 * k.1) x y))) 72 [some (.int (4 : Int32)), some (.int x), some (.int y)] [.int y, .int x, .ref (213 + 2 * k.1), .ref (213 + 2 * k.1)] (pq (kNw k 9) (213 + 2 * k.1 + 1) (4364 + 34 * k.1 + 4) (cut S (213 + 2 * k.1)) (cutR (R0 k) (213 + 2 * k.1))) from ?_)
  refine J.callI (y := m_G4_init) (av := [.int x, .int y]) (rest := [.ref (213 + 2 * k.1)]) (q := (213 + 2 * k.1)) l_X_340 d_X_thingOf_72 (c_G4_init w (d + 1) k S 9 x y (by decide)) rfl (Nat.le_of_ble_eq_true rfl) ⟨Nat.le_refl _, Nat.le_refl _⟩ (show J w (d + 4) m_X_thingOf (n0, z0, some (.ref (213 + 2 * k.1)), (mk (kNw k 9) (tS S (213 + 2 * k.1) x y))) 75 [some (.int (4 : Int32)), some (.int x), some (.int y)] [.ref (213 + 2 * k.1)] (mk (kNw k 9) (tS S (213 + 2 * k.1) x y)) from ?_)
  exact J.aret (v := some (213 + 2 * k.1)) d_X_thingOf_75 rfl rfl
theorem okC_X_341 : Cond.classLink "LeftTown" 341 (cN 10) ∈ lw_ok := by decide +kernel
theorem d_X_thingOf_76 : decode m_X_thingOf.2.1 76 = .ok (.new 341, 3) := by decide +kernel
def b_X_thingOf_79_3 : List Ins := [(.dup, 0, 0, 0), (.iload_n 1, 0, 0, 0), (.iload_n 2, 0, 0, 0)]
theorem k_X_thingOf_79_3 : bok m_X_thingOf 79 b_X_thingOf_79_3 = true := by decide +kernel
theorem d_X_thingOf_82 : decode m_X_thingOf.2.1 82 = .ok (.invokespecial 343, 3) := by decide +kernel
theorem d_X_thingOf_85 : decode m_X_thingOf.2.1 85 = .ok (.areturn, 1) := by decide +kernel
theorem c_X_thing5 (w : Wd) (d : Nat) (k : cx) (S : hs) (x y : Int32) : Cl w (d + 4) m_X_thingOf [.int (5 : Int32), .int x, .int y] (mk k S) (some (.ref (213 + 2 * k.1))) (mk (kNw k 10) (tS S (213 + 2 * k.1) x y)) := by
  refine Cl.of le_kN.1 le_kN.2 (by decide +kernel) (Nat.le_of_ble_eq_true rfl) ?_
  generalize hn0 : hN (mk k S) = n0
  generalize hz0 : hZ (mk k S) = z0
  show J w (d + 4) m_X_thingOf (n0, z0, some (.ref (213 + 2 * k.1)), (mk (kNw k 10) (tS S (213 + 2 * k.1) x y))) 0 [some (.int (5 : Int32)), some (.int x), some (.int y)] [] (mk k S)
  refine J.run b_X_thingOf_0_1 k_X_thingOf_0_1 rfl (show J w (d + 4) m_X_thingOf (n0, z0, some (.ref (213 + 2 * k.1)), (mk (kNw k 10) (tS S (213 + 2 * k.1) x y))) 1 [some (.int (5 : Int32)), some (.int x), some (.int y)] [.int (5 : Int32)] (mk k S) from ?_)
  refine J.tsIn (off := 75) (tgt := 76) d_X_thingOf_1 (by decide) (by decide) (by rfl) rfl ?_
  refine J.newO (ci := 10) (by decide) okC_X_341 d_X_thingOf_76 le_n1 new_born (show J w (d + 4) m_X_thingOf (n0, z0, some (.ref (213 + 2 * k.1)), (mk (kNw k 10) (tS S (213 + 2 * k.1) x y))) 79 [some (.int (5 : Int32)), some (.int x), some (.int y)] [.ref (213 + 2 * k.1)] (pq (kNw k 10) (213 + 2 * k.1 + 1) (4364 + 34 * k.1 + 4) (cut S (213 + 2 * k.1)) (cutR (R0 k) (213 + 2 * k.1))) from ?_)
  refine J.run b_X_thingOf_79_3 k_X_thingOf_79_3 rfl (show J w (d + 4) m_X_thingOf (n0, z0, some (.ref (213 + 2 * k.1)), (mk (kNw k 10) (tS S (213 + 2 * k.1) x y))) 82 [some (.int (5 : Int32)), some (.int x), some (.int y)] [.int y, .int x, .ref (213 + 2 * k.1), .ref (213 + 2 * k.1)] (pq (kNw k 10) (213 + 2 * k.1 + 1) (4364 + 34 * k.1 + 4) (cut S (213 + 2 * k.1)) (cutR (R0 k) (213 + 2 * k.1))) from ?_)
  refine J.callI (y := m_G5_init) (av := [.int x, .int y]) (rest := [.ref (213 + 2 * k.1)]) (q := (213 + 2 * k.1)) l_X_343 d_X_thingOf_82 (c_G5_init w (d + 0) k S 10 x y (by decide)) rfl (Nat.le_of_ble_eq_true rfl) ⟨Nat.le_refl _, Nat.le_refl _⟩ (show J w (d + 4) m_X_thingOf (n0, z0, some (.ref (213 + 2 * k.1)), (mk (kNw k 10) (tS S (213 + 2 * k.1) x y))) 85 [some (.int (5 : Int32)), some (.int x), some (.int y)] [.ref (213 + 2 * k.1)] (mk (kNw k 10) (tS S (213 + 2 * k.1) x y)) from ?_)
  exact J.aret (v := some (213 + 2 * k.1)) d_X_thingOf_85 rfl rfl
def b_X_thingOf_86_1 : List Ins := [(.aconst_null, 0, 0, 0)]
theorem k_X_thingOf_86_1 : bok m_X_thingOf 86 b_X_thingOf_86_1 = true := by decide +kernel
theorem d_X_thingOf_87 : decode m_X_thingOf.2.1 87 = .ok (.areturn, 1) := by decide +kernel
theorem c_X_thing0 (w : Wd) (d : Nat) (k : cx) (S : hs) (x y : Int32) : Cl w (d + 4) m_X_thingOf [.int (-1 : Int32), .int x, .int y] (mk k S) (some .null) (mk k S) := by
  refine Cl.of (Nat.le_refl _) (Nat.le_refl _) (by decide +kernel) (Nat.le_of_ble_eq_true rfl) ?_
  generalize hN (mk k S) = n0
  generalize hZ (mk k S) = z0
  show J w (d + 4) m_X_thingOf (n0, z0, some .null, mk k S) 0 [some (.int (-1 : Int32)), some (.int x), some (.int y)] [] (mk k S)
  refine J.run b_X_thingOf_0_1 k_X_thingOf_0_1 rfl (show J w (d + 4) m_X_thingOf (n0, z0, some .null, mk k S) 1 [some (.int (-1 : Int32)), some (.int x), some (.int y)] [.int (-1 : Int32)] (mk k S) from ?_)
  refine J.tsOut (tgt := 86) d_X_thingOf_1 (by decide) rfl ?_
  refine J.run b_X_thingOf_86_1 k_X_thingOf_86_1 rfl (show J w (d + 4) m_X_thingOf (n0, z0, some .null, mk k S) 87 [some (.int (-1 : Int32)), some (.int x), some (.int y)] [.null] (mk k S) from ?_)
  exact J.aret (v := none) d_X_thingOf_87 rfl rfl
