/-! law. -/
def kT (S16 : hs) (y17 : Int32) (_y18 : Int32) : Option (Int32 × hs) := (if (gI S16 128 5) ≤ (gI S16 128 6) then (if y17 = 0 then some (((-100 : Int32) - (gI S16 128 2)), (uI S16 128 2 (0 : Int32))) else some ((gI (uI S16 128 2 (0 : Int32)) 129 5), (uI S16 128 2 (0 : Int32)))) else (if (200 : Int32) ≤ (gI S16 128 6) then (if y17 = 0 then some (((-100 : Int32) - (gI S16 128 2)), (uI S16 128 2 (0 : Int32))) else some ((gI (uI S16 128 2 (0 : Int32)) 129 5), (uI S16 128 2 (0 : Int32)))) else ck (inb (gI S16 128 6) 200) ((if y17 = 0 then some (((-100 : Int32) - (gI S16 137 ((gI S16 128 6)).toNatClampNeg)), (uI S16 128 2 (0 : Int32))) else some ((gI (uI S16 128 2 (0 : Int32)) 129 5), (uI S16 128 2 (0 : Int32)))))))
theorem rdt_e (S : hs) : f_R_readText S = bd (f_R_splitTape S) fun _ S2 => bd (f_A_clear_129 S2) fun _ S5 => bd (f_R_advance (uI S5 128 6 (-1 : Int32))) fun _ S8 => lp_R_readText_24 kT 1000 S8 (1 : Int32) (0 : Int32) := rfl
def kL (S209 : hs) (y210 : Int32) : Option (Int32 × hs) := (if (gI (uI S209 191 5 (0 : Int32)) 191 9) = 0 then lp_M_law_192 y210 (fun (S217 : hs) (_y218 : Int32) => ck (inb ((341 : Int32) + y210) 358) (lp_M_law_251 y210 1000 (uI S217 192 (((341 : Int32) + y210)).toNatClampNeg (gI S217 191 12)) (0 : Int32))) 1000 (uI (uI S209 191 5 (0 : Int32)) 192 4 y210) (0 : Int32) else some (((-100 : Int32) - (gI (uI S209 191 5 (0 : Int32)) 191 6)), (uI S209 191 5 (0 : Int32))))
theorem law_e (S : hs) : f_M_law S = bd (f_M_next (uI (uI (uI (uI S 191 7 (0 : Int32)) 191 9 (0 : Int32)) 191 10 (0 : Int32)) 191 12 (0 : Int32))) fun _ S2 => lp_M_law_26 kL 1000 S2 (0 : Int32) := rfl
def PcR (a i : Nat) : Prop := a = 128 ∨ a = 129 ∨ (130 ≤ a ∧ a ≤ 134) ∨ a = 136 ∨ a = 137
def PmR (a i : Nat) : Prop := (a = 191 ∧ (5 ≤ i ∧ i ≤ 12)) ∨ a = 195 ∨ a = 198 ∨ a = 199
section
variable {B : Nat → Nat} {n N : Nat} {S T : hs} {k : cx}
theorem l192_l {cc : Nat} (h8 : cc ≤ 8) {K : hs → Int32 → Option (Int32 × hs)} : ∀ (r i f : Nat) (T : hs), i + r = cc → r < f → ∃ U, lp_M_law_192 (iN cc) K f T (iN i) = K U (iN cc) ∧ (∀ a j, gI U a j = if a = 192 ∧ 341 + i ≤ j ∧ j < 341 + cc then gI T 198 (j - 341) else if a = 192 ∧ 350 + i ≤ j ∧ j < 350 + cc then gI T 199 (j - 350) else gI T a j) ∧ ∀ a j, gJ U a j = gJ T a j := by
  intro r
  induction r with
  | zero =>
    intro i f T hi hf
    obtain ⟨f, rfl⟩ : ∃ q, f = q + 1 := ⟨f - 1, by omega⟩
    obtain rfl : i = cc := by omega
    exact ⟨T, by rw [lp_M_law_192, if_pos ((iN_le (by omega) (by omega)).mpr (Nat.le_refl _))], fun a j => by rw [if_neg (by omega), if_neg (by omega)], fun _ _ => rfl⟩
  | succ r ih =>
    intro i f T hi hf
    obtain ⟨f, rfl⟩ : ∃ q, f = q + 1 := ⟨f - 1, by omega⟩
    have e1 : (341 : Int32) + iN i = iN (341 + i) := iN_a 341 i
    have e2 : (350 : Int32) + iN i = iN (350 + i) := iN_a 350 i
    obtain ⟨U, h1, h2, h3⟩ := ih (i + 1) f (uI (uI T 192 (341 + i) (gI T 198 i)) 192 (350 + i) (gI T 199 i)) (by omega) (by omega)
    refine ⟨U, ?_, fun a j => ?_, h3⟩
    · rw [lp_M_law_192, if_neg (fun z => by have := (iN_le (by omega) (by omega)).mp z; omega), e1, e2, ck_of (iN_b (by omega) (by decide)), ck_of (iN_b (by omega) (by decide)), ck_of (iN_b (by omega) (by decide)), ck_of (iN_b (by omega) (by decide)), iN_c (by omega), iN_c (by omega), iN_c (by omega), gI_ua (show (199 : Nat) ≠ 192 by decide), iN_1]
      exact h1
    · rw [h2]
      simp only [gI_u]
      grind
theorem l251_l {c : Nat} (hc : c ≤ 200) {x1 : Int32} : ∀ (r i f : Nat) (T : hs), i + r = c → r < f → gI T 191 12 = iN c → ∃ U, lp_M_law_251 x1 f T (iN i) = some (x1, U) ∧ (∀ a j, gI U a j = if a = 192 ∧ 141 + i ≤ j ∧ j < 141 + c then gI T 195 (j - 141) else gI T a j) ∧ ∀ a j, gJ U a j = gJ T a j := by
  intro r
  induction r with
  | zero =>
    intro i f T hi hf h12
    obtain ⟨f, rfl⟩ : ∃ q, f = q + 1 := ⟨f - 1, by omega⟩
    obtain rfl : i = c := by omega
    exact ⟨T, by rw [lp_M_law_251, h12, if_pos ((iN_le (by omega) (by omega)).mpr (Nat.le_refl _))], fun a j => by rw [if_neg (by omega)], fun _ _ => rfl⟩
  | succ r ih =>
    intro i f T hi hf h12
    obtain ⟨f, rfl⟩ : ∃ q, f = q + 1 := ⟨f - 1, by omega⟩
    have e1 : (141 : Int32) + iN i = iN (141 + i) := iN_a 141 i
    obtain ⟨U, h1, h2, h3⟩ := ih (i + 1) f (uI T 192 (141 + i) (gI T 195 i)) (by omega) (by omega) ((gI_ua (by decide)).trans h12)
    refine ⟨U, ?_, fun a j => ?_, h3⟩
    · rw [lp_M_law_251, h12, if_neg (fun z => by have := (iN_le (by omega) (by omega)).mp z; omega), e1, ck_of (iN_b (by omega) (by decide)), ck_of (iN_b (by omega) (by decide)), iN_c (by omega), iN_c (by omega), iN_1]
      exact h1
    · rw [h2]
      simp only [gI_u]
      grind
theorem kT_e {i : Nat} {L : List (Int32 × Int32 × Int32)} (h : CP S B n N i L) (ok : Bool) (y : Int32) : kT S (bI ok) y = some (bif ok then gI S 129 5 else (-100 : Int32) - iN (stq B n i), uI S 128 2 (0 : Int32)) := by
  obtain ⟨h1, h2, h3, h4, h5, h6, h7, h8⟩ := h
  have n2 := h1.2.1
  have N2 := h2.2.1
  have e : gI (uI S 128 2 (0 : Int32)) 129 5 = gI S 129 5 := gI_ua (by decide)
  unfold kT
  rw [h4, h2.1, h1.1, e]
  by_cases q : N ≤ i
  · obtain rfl : i = N := by omega
    rw [if_pos ((iN_le (by omega) (by omega)).mpr (Nat.le_refl _)), h2.2.2.1]
    cases ok <;> rfl
  · rw [if_neg (fun z => q ((iN_le (by omega) (by omega)).mp z)), if_neg (le_n (a := 200) rfl (iN_i (by omega)) (by omega)), ck_of (iN_b (by omega) (by decide)), iN_c (by omega), (h2.2.2.2 i (by omega)).2.2]
    cases ok <;> rfl
/-- what both make of the tape -/
theorem rd_text (hT : TpC S B n) (hS : IvS S) :
    ∃ (ok : Bool) (i' cc : Nat) (L : List (Int32 × Int32 × Int32)) (C : List Int32) (kd en st : Nat → Nat) (vs : Nat → (Nat → Int32) → Bool), (ok = true → cc ≤ 8 ∧ L.length ≤ 100 ∧ C.length ≤ 200 ∧ ClI cc kd en st vs L C) ∧
      (∃ U, f_R_readText S = some (bif ok then iN cc else (-100 : Int32) - iN (stq B n i'), U) ∧ Fc PcR S U ∧ gI U 128 2 = 0 ∧ (ok = true → ClC U cc kd en ∧ gI U 129 6 = iN L.length ∧ ∀ j, j < L.length → gI U 132 j = (L.getD j (0, 0, 0)).1 ∧ gI U 133 j = (L.getD j (0, 0, 0)).2.1 ∧ gI U 134 j = (L.getD j (0, 0, 0)).2.2)) ∧
      (∀ T, TpM T B n → IvS T → ∃ U x, f_M_law T = kL U x ∧ Fc PmR T U ∧ gI U 191 9 = (bif ok then 0 else 1) ∧ gI U 191 6 = iN (stq B n i') ∧ (ok = true → x = iN cc ∧ gI U 191 12 = iN C.length ∧ (∀ j, j < C.length → gI U 195 j = C.getD j 0) ∧ ClM U cc kd st)) := by
  obtain ⟨S2, N, a1, a2, a3⟩ := pR_splitTape hT hS
  have hN : TN B n N := ⟨hT.2.1, a3.2.1, a3.2.2.1, fun j hj => (a3.2.2.2 j hj).1, fun j hj => (hT.2.2 j hj).1⟩
  have hn := hN.1
  have hNn := hN.2.1
  have hT2 := hT.fc a2 (nPs (by omega)) (fun _ => nPs (by omega))
  have fc3 : Fc (fun a i => (a = 129 ∧ (i = 5 ∨ i = 6)) ∨ (a = 128 ∧ i = 6)) S2 (uI (uI (uI S2 129 5 (0 : Int32)) 129 6 (0 : Int32)) 128 6 (-1 : Int32)) := ((Fc.rfl'.uI (Or.inl ⟨rfl, Or.inl rfl⟩)).uI (Or.inl ⟨rfl, Or.inr rfl⟩)).uI (Or.inr ⟨rfl, rfl⟩)
  obtain ⟨S3, b1, b2, b3⟩ := pR_adv0 (S := uI (uI (uI S2 129 5 (0 : Int32)) 129 6 (0 : Int32)) 128 6 (-1 : Int32)) (hT2.fc fc3 (by omega) (fun _ => by omega)) (a3.fc fc3 ⟨by omega, fun _ => by omega, fun _ => by omega⟩) gI_us (by rw [gI_ua (by decide), gI_us])
  have c5 : gI S3 129 5 = 0 := by
    rw [b2.1 129 5 (nPcA (by omega)), gI_ua (by decide), gI_un (by decide), gI_us]
  obtain ⟨ok, i', cc, L, C, kd, en, st, vs, r1, r2, r3⟩ := tx_l hN N 0 0 [] [] (fun _ => 0) (fun _ => 0) (fun _ => 0) (fun _ _ => true) (by omega) (by omega) (by omega) (Nat.zero_le _) (Nat.zero_le _) ⟨rfl, rfl, fun k hk => absurd hk (Nat.not_lt_zero _)⟩
  refine ⟨ok, i', cc, L, C, kd, en, st, vs, r1, ?_, fun T hTm hST => ?_⟩
  · obtain ⟨U, y, L2, d1, d2, d3, d4⟩ := r2 S3 1000 kT b3 ⟨c5, fun k hk => absurd hk (Nat.not_lt_zero _)⟩ (by omega)
    have d1 : lp_R_readText_24 kT 1000 S3 (1 : Int32) (0 : Int32) = kT U (bI ok) y := d1
    have fA : Fc PcR S U := by
      refine (((a2.mono ?_).trans (fc3.mono ?_)).trans (b2.mono ?_)).trans (d2.mono ?_)
      · intro a i z; unfold PsT at z; unfold PcR; omega
      · intro a i z; unfold PcR; omega
      · intro a i z; unfold PcA at z; unfold PcR; omega
      · intro a i z; unfold PcT PcL PcA PcS at z; unfold PcR; omega
    refine ⟨uI U 128 2 (0 : Int32), ?_, fA.uI (Or.inl rfl), gI_us, fun z => ?_⟩
    · rw [rdt_e, a1, bd_s]
      unfold f_A_clear_129
      rw [bd_s, b1, bd_s, d1, kT_e d3]
      cases ok with
      | false => rfl
      | true => rw [bt_t, bt_t, (d4 rfl).2.1]
    · obtain ⟨e1, e2⟩ := d4 z
      subst e1
      refine ⟨⟨(gI_ua (by decide)).trans e2.1, fun k hk => ⟨(gI_ua (by decide)).trans (e2.2 k hk).1, (gI_ua (by decide)).trans (e2.2 k hk).2⟩⟩, (gI_ua (by decide)).trans d3.2.2.2.2.2.1, fun j hj => ?_⟩
      have := d3.2.2.2.2.2.2.2 j hj
      exact ⟨(gI_ua (by decide)).trans this.1, (gI_ua (by decide)).trans this.2.1, (gI_ua (by decide)).trans this.2.2⟩
  · have f0 : Fc (fun a i => a = 191 ∧ (i = 7 ∨ i = 9 ∨ i = 10 ∨ i = 12)) T (uI (uI (uI (uI T 191 7 (0 : Int32)) 191 9 (0 : Int32)) 191 10 (0 : Int32)) 191 12 (0 : Int32)) := (((Fc.rfl'.uI ⟨rfl, by omega⟩).uI ⟨rfl, by omega⟩).uI ⟨rfl, by omega⟩).uI ⟨rfl, by omega⟩
    have hT1 := hTm.fc f0 (by omega) (fun _ => by omega)
    have hS1 := hST.fc f0 (fun a i _ _ => by omega)
    obtain ⟨V, d1, d2, d3⟩ := pM_nextF hT1 (by rw [gI_un (by decide), gI_un (by decide), gI_un (by decide), gI_us])
    have m0 : MP V B n 0 0 [] := ⟨hT1.pm d2, hS1.fc d2 (fun a i _ _ => nPm (by omega)), d3, by rw [d2.1 191 9 (nPm (by omega)), gI_un (by decide), gI_un (by decide), gI_us]; rfl, by rw [d2.1 191 12 (nPm (by omega)), gI_us]; rfl, fun j hj => absurd hj (Nat.not_lt_zero _)⟩
    have e10 : gI V 191 10 = iN 0 := by rw [d2.1 191 10 (nPm (by omega)), gI_un (by decide), gI_us]; rfl
    obtain ⟨U, C2, x, g1, g2, g3, g4⟩ := r3 V 1000 kL m0 e10 (fun k hk => absurd hk (Nat.not_lt_zero _)) (by omega)
    have g1 : lp_M_law_26 kL 1000 V (0 : Int32) = kL U x := g1
    refine ⟨U, x, ?_, ?_, ?_, g3.2.2.1.1, fun z => ?_⟩
    · rw [law_e, d1, bd_s, g1]
    · refine ((f0.mono ?_).trans (d2.mono ?_)).trans (g2.mono ?_)
      · intro a i z; unfold PmR; omega
      · intro a i z; unfold PmT at z; unfold PmR; omega
      · intro a i z; unfold PmX PmD PmL at z; unfold PmR; omega
    · rw [g3.2.2.2.1]; cases ok <;> rfl
    · obtain ⟨e1, e2, e3⟩ := g4 z
      subst e1
      exact ⟨e2, g3.2.2.2.2.1, g3.2.2.2.2.2, e3⟩
theorem VM.cg4 {m m' : Nat → Int32} (v : VM m) (e : ∀ i, i < 141 → i ≠ 4 → m' i = m i) : VM m' ∧ nCr m' = nCr m ∧ nSt m' = nSt m ∧ nWk m' = nWk m ∧ nDy m' = nDy m := by
  have hc := v.c.2
  have hs1 := v.s.2
  have hw := v.w.2
  exact VM.of (m := m') (nc := nCr m) (ns := nSt m) (nw := nWk m) (nd := nDy m) (by rw [e _ (by omega) (by omega)]; exact v.c.1) v.c.2 (by rw [e _ (by omega) (by omega)]; exact v.s.1) v.s.2 (by rw [e _ (by omega) (by omega)]; exact v.w.1) v.w.2 (by rw [e _ (by omega) (by omega)]; exact v.d.1) v.d.2
    (fun i hi => by rw [e _ (by omega) (by omega), e _ (by omega) (by omega)]; exact v.x_ i hi) (fun i j hi hj => by rw [e _ (by omega) (by omega), e _ (by omega) (by omega), e _ (by omega) (by omega), e _ (by omega) (by omega)]; exact v.u_ i j hi hj)
    (fun j hj => by rw [e _ (by omega) (by omega), e _ (by omega) (by omega), e _ (by omega) (by omega), e _ (by omega) (by omega), e _ (by omega) (by omega)]; exact v.e_ j hj) (fun i hi => by rw [e _ (by omega) (by omega), e _ (by omega) (by omega)]; exact v.k_ i hi)
theorem TB.cg4 {g : Nat → Nat → Int32} {m m' : Nat → Int32} (h : TB g m) (v : VM m) (e : ∀ i, i < 141 → i ≠ 4 → m' i = m i) : TB g m' := by
  obtain ⟨-, c1, c2, c3, c4⟩ := v.cg4 e
  have b1 := v.c.2
  have b2 := v.s.2
  have b3 := v.w.2
  obtain ⟨t1, t2, t3, t4, t5, t6, t7⟩ := h
  unfold TB
  rw [c1, c2, c3, e 0 (by omega) (by omega), e 1 (by omega) (by omega), e 2 (by omega) (by omega), e 3 (by omega) (by omega)]
  refine ⟨t1, t2, t3, t4, fun i hi => ?_, fun j hj => ?_, fun i hi => ?_⟩
  · rw [e _ (by omega) (by omega), e _ (by omega) (by omega)]; exact t5 i hi
  · obtain ⟨⟨e1, a1⟩, ⟨e2, a2⟩, -⟩ := v.e hj
    have eB : qB m' j = qB m j := by unfold qB; rw [e _ (by omega) (by omega)]
    have eA : qA m' j = qA m j := by unfold qA; rw [e _ (by omega) (by omega)]
    have eX : ∀ i, i < 12 → qX m' i = qX m i := fun i hi => by unfold qX; rw [e _ (by omega) (by omega)]
    have eY : ∀ i, i < 12 → qY m' i = qY m i := fun i hi => by unfold qY; rw [e _ (by omega) (by omega)]
    have eL : qL m' j = qL m j := by unfold qL; rw [eA, eB, eX _ (by omega), eX _ (by omega), eY _ (by omega), eY _ (by omega)]
    rw [eL, eA, eB, e (29 + 5 * j) (by omega) (by omega), e (30 + 5 * j) (by omega) (by omega), e (31 + 5 * j) (by omega) (by omega), e (32 + 5 * j) (by omega) (by omega), e (33 + 5 * j) (by omega) (by omega), e (5 + 2 * qA m j) (by omega) (by omega), e (5 + 2 * qB m j) (by omega) (by omega), e (6 + 2 * qA m j) (by omega) (by omega), e (6 + 2 * qB m j) (by omega) (by omega)]
    exact t6 j hj
  · rw [e _ (by omega) (by omega), e _ (by omega) (by omega), e _ (by omega) (by omega)]; exact t7 i hi
theorem Inv.law (h : Inv k S) (e : ∀ a i, (a < 34 ∨ (80 < a ∧ a < 128) ∨ (137 < a ∧ a < 191) ∨ 199 < a ∨ a = 193 ∨ (a = 191 ∧ (i = 2 ∨ i = 3 ∨ i = 23 ∨ i = 31))) → gI T a i = gI S a i) (f : ∀ a i, gJ T a i = gJ S a i) (p1 : gI T 128 2 = 0) (p2 : gI T 191 5 = 0) {m' : Nat → Int32} {l' : Lz} (ht : IvT T m' l') : Inv k T := by
  obtain ⟨-, hk, hr, hp, hh, hg, ha, hss, hi⟩ := h
  exact ⟨⟨m', l', ht⟩, hk.cg (fun a i q => e a i (by omega)), hr.cg (fun a i q => e a i (by omega)), ⟨0, Nat.zero_le _, p1, p2, fun i hi => absurd hi (Nat.not_lt_zero _)⟩, hh.cg (fun a i q => e a i (by omega)) (fun a i q1 q2 => f a i), hg.cg (fun a i q => e a i (by omega)), ha.cg (fun a i q => e a i (by omega)), hss.cg (fun a i q1 q2 => e a i (by omega)), (e 191 3 (by omega)).trans hi⟩
end
