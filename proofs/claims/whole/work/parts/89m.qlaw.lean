/-! law: the class's answer is the model's. -/
section
variable {B : Nat → Nat} {n N : Nat} {S T : hs} {k : cx}
theorem hdC_of {cc : Nat} {kd en st : Nat → Nat} {vs : Nat → (Nat → Int32) → Bool} {L : List (Int32 × Int32 × Int32)} {C : List Int32} (h : ClI cc kd en st vs L C) (h8 : cc ≤ 8) (hL : L.length ≤ 100) {g6 g7 g8 g9 : Nat → Int32} (e6 : ∀ k, k < cc → g6 k = iN (en k)) (e7 : ∀ j, j < L.length → g7 j = (L.getD j (0, 0, 0)).1 ∧ g8 j = (L.getD j (0, 0, 0)).2.1 ∧ g9 j = (L.getD j (0, 0, 0)).2.2) {k : Nat} (hk : k < cc) : HdC g6 g7 g8 g9 k (vs k) := by
  intro T t6 t7 t8 t9
  obtain ⟨k1, k2, ⟨Lc, k3, k4, k5, k6⟩, -⟩ := h.2.2 k hk
  have hS : StAt T (clB en k) Lc := fun j hj => by
    have := e7 (clB en k + j) (by omega)
    rw [k6 j hj] at this
    exact ⟨(t7 _ (by omega)).trans this.1, (t8 _ (by omega)).trans this.2.1, (t9 _ (by omega)).trans this.2.2⟩
  have := pA_holds (kk := k) (by omega) hS (by omega) (by rw [t6 k (by omega), e6 k hk, k4]) (by
    unfold clB
    by_cases q : k = 0
    · exact Or.inl ⟨q, if_pos q⟩
    · exact Or.inr ⟨by omega, by rw [if_neg q, t6 _ (by omega), e6 _ (by omega)]⟩)
  rw [this]
  rcases k3 with ⟨rfl, e⟩ | p
  · have e0 : jb (evC (fun i => gI T 80 i) 1 []) 0 = true := (jb_1 0).trans (decide_eq_true rfl)
    rw [e, e0]
  · rw [(p _ _).1]
theorem hdM_of {cc : Nat} {kd en st : Nat → Nat} {vs : Nat → (Nat → Int32) → Bool} {L : List (Int32 × Int32 × Int32)} {C : List Int32} (h : ClI cc kd en st vs L C) (h8 : cc ≤ 8) (hC : C.length ≤ 200) {m : Nat → Int32} (xS : ∀ k, k ≤ cc → m (341 + k) = iN (st k)) (xC : ∀ j, j < C.length → m (141 + j) = C.getD j 0) {k : Nat} (hk : k < cc) : HdM m k (vs k) := by
  intro T m0 hT hm a b w ha hb hw
  obtain ⟨k1, k2, -, Lm, k7, k8, k9, k10⟩ := h.2.2 k hk
  have e2 : m (342 + k) = iN (st (k + 1)) := by
    rw [show 342 + k = 341 + (k + 1) from by omega]; exact xS (k + 1) (by omega)
  rw [xS k (by omega), e2]
  rcases k7 with ⟨rfl, e⟩ | p
  · have e3 : st (k + 1) = st k := k8.symm
    rw [e3, e]
    exact pM_holds0 (by omega)
  · exact pM_holds p (by omega) hT ha hb k8 (by omega) (fun j hj => by
      rw [hm _ (by omega) (by omega), xC _ (by omega)]; exact k10 j hj)
theorem q_law (h : Inv k S) : Q2 k S (f_X_law S) (fun T => f_M_law T) := by
  have h0 := h
  obtain ⟨⟨m, l, hc, hn, hlc, hlm⟩, hk, hr, ⟨n, n2, p1, p2, p3⟩, hh, hg, ha, hss, hi⟩ := h
  have hb : ∀ i, i < n → (gI S 194 i).toNatClampNeg < 256 ∧ gI S 194 i = iN (gI S 194 i).toNatClampNeg ∧ gI S 135 i = sx (gI S 194 i).toNatClampNeg := fun i hi => by
    obtain ⟨b, b1, b2, b3⟩ := p3 i hi
    rw [b2, iN_c (by omega)]
    exact ⟨b1, rfl, b3⟩
  have hT : TpC S (fun i => (gI S 194 i).toNatClampNeg) n := ⟨p1, n2, fun i hi => ⟨(hb i hi).1, (hb i hi).2.2⟩⟩
  obtain ⟨ok, i', cc, L, C, kd, en, st, vs, r1, ⟨S1, c1, c2, c3, c4⟩, r3⟩ := rd_text hT hss
  have sn := stq_n (B := fun i => (gI S 194 i).toNatClampNeg) (n := n) i'
  generalize hx : stq (fun i => (gI S 194 i).toNatClampNeg) n i' = x at c1 r3 sn
  cases ok with
  | false =>
    have neg : (-100 : Int32) - iN x < 0 := by
      have e : ((-100 : Int32) - iN x).toInt = -100 - (x : Int) := by
        rw [Int32.toInt_sub, iN_i (by omega)]
        have : (-100 : Int32).toInt = -100 := rfl
        rw [this, Int.bmod_eq_of_le (by omega) (by omega)]
      exact lt_y e tl0 (by omega)
    have h1 : f_X_law S = some ((-100 : Int32) - iN x, S1) := by
      unfold f_X_law
      rw [c1, bd_s, bt_f, if_pos neg]
    obtain ⟨U, y, d1, d2, d3, d4, -⟩ := r3 S1 ⟨(c2.1 191 5 (by unfold PcR; omega)).trans p2, n2, fun i hi => ⟨(hb i hi).1, (c2.1 194 i (by unfold PcR; omega)).trans (hb i hi).2.1⟩⟩ (hss.fc c2 (fun a i _ _ => by unfold PcR; omega))
    have h2 : f_M_law S1 = some ((-100 : Int32) - iN x, uI U 191 5 (0 : Int32)) := by
      rw [d1]
      unfold kL
      rw [gI_un (by decide), d3, if_neg (by decide), gI_un (by decide), d4]
    have e : ∀ a i, ¬ PcR a i → ¬ PmR a i → ¬ (a = 191 ∧ i = 5) → gI (uI U 191 5 (0 : Int32)) a i = gI S a i := fun a i q1 q2 q3 => by
      rw [gI_u, if_neg q3, d2.1 a i q2, c2.1 a i q1]
    have e' : ∀ a i, (a < 128 ∨ (137 < a ∧ a < 191) ∨ a = 192 ∨ 199 < a ∨ a = 193 ∨ (a = 191 ∧ (i = 2 ∨ i = 3 ∨ i = 23 ∨ i = 31))) → gI (uI U 191 5 (0 : Int32)) a i = gI S a i := fun a i q => e a i (by unfold PcR; omega) (by unfold PmR; omega) (by omega)
    refine ⟨_, S1, _, h1, h2, fun j => c2.1 32 j (by unfold PcR; omega), h0.law (m' := m) (l' := l) (fun a i q => e' a i (by omega)) (fun a i => (d2.2 a i).trans (c2.2 a i)) ?_ gI_us ⟨⟨hc.1, hc.2.cg2 hc.1 (fun a i q1 q2 q3 => e' a i (by omega))⟩, ⟨hn.1, fun i hi => (e' 192 i (by omega)).trans (hn.2 i hi)⟩, hlc.cg (e' _ _ (by omega)) (fun i _ => e' _ _ (by omega)) (fun i _ => e' _ _ (by omega)) (fun i _ => e' _ _ (by omega)) (fun i _ => e' _ _ (by omega)) (fun i _ => e' _ _ (by omega)), hlm⟩⟩
    rw [gI_ua (by decide), d2.1 128 2 (by unfold PmR; omega)]; exact c3
  | true =>
    obtain ⟨z1, z2, z3, z4⟩ := r1 rfl
    obtain ⟨y1, y2, y3⟩ := c4 rfl
    have h1 : ∃ S2, f_X_law S = some (iN cc, S2) ∧ (∀ a i, (a < 74 ∨ 79 < a) → gI S2 a i = gI S1 a i) ∧ gI S2 74 5 = iN cc ∧ (∀ i, i < 8 → gI S2 75 i = gI S1 130 i ∧ gI S2 76 i = gI S1 131 i) ∧ (∀ i, i < 100 → gI S2 77 i = gI S1 132 i ∧ gI S2 78 i = gI S1 133 i ∧ gI S2 79 i = gI S1 134 i) ∧ ∀ a i, gJ S2 a i = gJ S1 a i := by
      have hx1 : f_X_law S = some (iN cc, cpI (cpI (cpI (cpI (cpI (uI (uI S1 74 5 (gI S1 129 5)) 74 6 (gI (uI S1 74 5 (gI S1 129 5)) 129 6)) 130 75 8) 131 76 8) 132 77 100) 133 78 100) 134 79 100) := by
        unfold f_X_law
        rw [c1, bd_s, bt_t, if_neg (l0 (by omega))]
        unfold f_A_copyFrom_129
        rw [bd_s]
      refine ⟨_, hx1, fun a i q => ?_, ?_, fun i hi => ⟨?_, ?_⟩, fun i hi => ⟨?_, ?_, ?_⟩, fun a i => rfl⟩
      · simp only [gI_cp, gI_u]; grind
      · simp only [gI_cp, gI_u]; rw [← y1.1]; grind
      · simp only [gI_cp, gI_u]; grind
      · simp only [gI_cp, gI_u]; grind
      · simp only [gI_cp, gI_u]; grind
      · simp only [gI_cp, gI_u]; grind
      · simp only [gI_cp, gI_u]; grind
    obtain ⟨S2, h1, s1, s2, s3, s4, s5⟩ := h1
    have eS : ∀ a i, ¬ PcR a i → (a < 74 ∨ 79 < a) → gI S2 a i = gI S a i := fun a i q1 q2 => (s1 a i q2).trans (c2.1 a i q1)
    obtain ⟨U, y, d1, d2, d3, d4, d5⟩ := r3 S2 ⟨(eS 191 5 (by unfold PcR; omega) (by omega)).trans p2, n2, fun i hi => ⟨(hb i hi).1, (eS 194 i (by unfold PcR; omega) (by omega)).trans (hb i hi).2.1⟩⟩ (hss.cg (fun a i _ _ => eS a i (by unfold PcR; omega) (by omega)))
    obtain ⟨rfl, d6, d7, d8⟩ := d5 rfl
    have e1 : (341 : Int32) + iN cc = iN (341 + cc) := iN_a 341 cc
    obtain ⟨V1, v1, v2, v3⟩ := l192_l z1 (K := fun (S217 : hs) (_y218 : Int32) => ck (inb ((341 : Int32) + iN cc) 358) (lp_M_law_251 (iN cc) 1000 (uI S217 192 (((341 : Int32) + iN cc)).toNatClampNeg (gI S217 191 12)) (0 : Int32))) cc 0 1000 (uI (uI U 191 5 (0 : Int32)) 192 4 (iN cc)) (by omega) (by omega)
    have v12 : gI V1 191 12 = iN C.length := by
      rw [v2, if_neg (by omega), if_neg (by omega), gI_ua (by decide), gI_un (by decide)]; exact d6
    obtain ⟨V2, w1, w2, w3⟩ := l251_l z3 (x1 := iN cc) C.length 0 1000 (uI V1 192 (341 + cc) (iN C.length)) (by omega) (by omega) ((gI_ua (by decide)).trans v12)
    have h2 : f_M_law S2 = some (iN cc, V2) := by
      rw [d1]
      unfold kL
      rw [gI_un (by decide), d3, if_pos (by decide), show (0 : Int32) = iN 0 from rfl]
      refine Eq.trans v1 ?_
      show ck _ _ = _
      rw [e1, ck_of (iN_b (by omega) (by decide)), iN_c (by omega), v12]
      exact w1
    have cell : ∀ a j, gI V2 a j = if a = 192 then (if 141 ≤ j ∧ j < 141 + C.length then gI U 195 (j - 141) else if j = 341 + cc then iN C.length else if 341 ≤ j ∧ j < 341 + cc then gI U 198 (j - 341) else if 350 ≤ j ∧ j < 350 + cc then gI U 199 (j - 350) else if j = 4 then iN cc else gI U 192 j) else if a = 191 ∧ j = 5 then 0 else gI U a j := by
      intro a j
      rw [w2]
      simp only [gI_u, v2]
      clear w1 w2 v1 v2 h2 d1 r3 hT hb p3 hh hg ha hr hlc hlm
      grind (splits := 60)
    have oth : ∀ a j, a ≠ 192 → ¬ (a = 191 ∧ j = 5) → gI V2 a j = gI U a j := fun a j q1 q2 => by rw [cell, if_neg q1, if_neg q2]
    have x4 : gI V2 192 4 = iN cc := by rw [cell, if_pos rfl, if_neg (by omega), if_neg (by omega), if_neg (by omega), if_neg (by omega), if_pos rfl]
    have xC : ∀ j, j < C.length → gI V2 192 (141 + j) = C.getD j 0 := fun j hj => by
      rw [cell, if_pos rfl, if_pos (by omega), Nat.add_sub_cancel_left]; exact d7 j hj
    have xS : ∀ k, k ≤ cc → gI V2 192 (341 + k) = iN (st k) := fun k hk => by
      rw [cell, if_pos rfl, if_neg (by omega)]
      by_cases q : k = cc
      · rw [if_pos (by omega), q, z4.2.1]
      · rw [if_neg (by omega), if_pos (by omega), Nat.add_sub_cancel_left]; exact (d8 k (by omega)).1
    have xK : ∀ k, k < cc → gI V2 192 (350 + k) = iN (kd k) := fun k hk => by
      rw [cell, if_pos rfl, if_neg (by omega), if_neg (by omega), if_neg (by omega), if_pos (by omega), Nat.add_sub_cancel_left]; exact (d8 k hk).2
    have xO : ∀ i, i < 141 → i ≠ 4 → gI V2 192 i = m i := fun i h1 h2 => by
      rw [cell, if_pos rfl, if_neg (by omega), if_neg (by omega), if_neg (by omega), if_neg (by omega), if_neg h2, d2.1 192 i (by unfold PmR; omega), eS 192 i (by unfold PcR; omega) (by omega)]
      exact hn.2 i (by omega)
    have eV : ∀ a i, ¬ PmR a i → a ≠ 192 → ¬ (a = 191 ∧ i = 5) → gI V2 a i = gI S2 a i := fun a i q1 q2 q3 => (oth a i q2 q3).trans (d2.1 a i q1)
    have e' : ∀ a i, (a < 74 ∨ (79 < a ∧ a < 128) ∨ (137 < a ∧ a < 191) ∨ 199 < a ∨ a = 193 ∨ (a = 191 ∧ (i = 2 ∨ i = 3 ∨ i = 23 ∨ i = 31))) → gI V2 a i = gI S a i := fun a i q => (eV a i (by unfold PmR; omega) (by omega) (by omega)).trans (eS a i (by unfold PcR; omega) (by omega))
    have eL : ∀ a i, 74 ≤ a → a < 80 → gI V2 a i = gI S2 a i := fun a i q1 q2 => eV a i (by unfold PmR; omega) (by omega) (by omega)
    have vm := hn.1.cg4 (m' := fun i => gI V2 192 i) xO
    refine ⟨_, S2, V2, h1, h2, fun j => eS 32 j (by unfold PcR; omega) (by omega), h0.law (m' := fun i => gI V2 192 i) (l' := (cc, kd, vs)) (fun a i q => e' a i (by omega)) (fun a i => (w3 a i).trans ((v3 a i).trans ((d2.2 a i).trans ((s5 a i).trans (c2.2 a i))))) ?_ ?_ ⟨⟨vm.1, (hc.2.cg2 hc.1 (fun a i q1 q2 q3 => e' a i (by omega))).cg4 hc.1 xO⟩, ⟨vm.1, fun i hi => rfl⟩, ⟨?_, z1, fun k hk => ⟨?_, (z4.2.2 k hk).1, ?_, (z4.2.2 k hk).2.1⟩⟩, x4, z1, fun k hk => ⟨xK k hk, (z4.2.2 k hk).1, hdM_of z4 z1 z3 (m := fun i => gI V2 192 i) xS xC hk⟩⟩⟩
    · rw [eV 128 2 (by unfold PmR; omega) (by omega) (by omega), s1 128 2 (by omega)]; exact c3
    · rw [cell, if_neg (by omega), if_pos ⟨rfl, rfl⟩]
    · exact (eL 74 5 (by omega) (by omega)).trans s2
    · exact (eL 75 k (by omega) (by omega)).trans ((s3 k (by omega)).1.trans (y1.2 k hk).1)
    · exact hdC_of z4 z1 z2 (fun k hk => (eL 76 k (by omega) (by omega)).trans ((s3 k (by omega)).2.trans (y1.2 k hk).2)) (fun j hj => ⟨(eL 77 j (by omega) (by omega)).trans ((s4 j (by omega)).1.trans (y3 j hj).1), (eL 78 j (by omega) (by omega)).trans ((s4 j (by omega)).2.1.trans (y3 j hj).2.1), (eL 79 j (by omega) (by omega)).trans ((s4 j (by omega)).2.2.trans (y3 j hj).2.2)⟩) hk
end
