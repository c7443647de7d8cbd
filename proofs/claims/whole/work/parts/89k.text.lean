/-! The whole text, read by both. -/
def clB (en : Nat → Nat) (k : Nat) : Nat := if k = 0 then 0 else en (k - 1)
def ClI (cc : Nat) (kd en st : Nat → Nat) (vs : Nat → (Nat → Int32) → Bool) (L : List (Int32 × Int32 × Int32)) (C : List Int32) : Prop :=
  clB en cc = L.length ∧ st cc = C.length ∧ ∀ k, k < cc → kd k ≤ 5 ∧ Dep6 (vs k) ∧ (∃ Lc, PiC (vs k) Lc ∧ clB en k + Lc.length = en k ∧ en k ≤ L.length ∧ ∀ j, j < Lc.length → L.getD (clB en k + j) (0, 0, 0) = Lc.getD j (0, 0, 0)) ∧ (∃ Lm, PiM (vs k) Lm ∧ st k + Lm.length = st (k + 1) ∧ st (k + 1) ≤ C.length ∧ ∀ j, j < Lm.length → C.getD (st k + j) 0 = Lm.getD j 0)
def ClC (S : hs) (cc : Nat) (kd en : Nat → Nat) : Prop := gI S 129 5 = iN cc ∧ ∀ k, k < cc → gI S 130 k = iN (kd k) ∧ gI S 131 k = iN (en k)
def ClM (S : hs) (cc : Nat) (kd st : Nat → Nat) : Prop := ∀ k, k < cc → gI S 198 k = iN (st k) ∧ gI S 199 k = iN (kd k)
def upN {α : Type} (f : Nat → α) (i : Nat) (v : α) : Nat → α := fun j => if j = i then v else f j
theorem upN_s {α : Type} {f : Nat → α} {i : Nat} {v : α} : upN f i v i = v := if_pos rfl
theorem upN_n {α : Type} {f : Nat → α} {i j : Nat} {v : α} (h : j ≠ i) : upN f i v j = f j := if_neg h
theorem gdl_l {α : Type} (x : α) (L1 L2 : List α) : ∀ j, j < L1.length → (L1 ++ L2).getD j x = L1.getD j x := by
  induction L1 with
  | nil => intro j hj; exact absurd hj (Nat.not_lt_zero _)
  | cons c L ih =>
    intro j hj
    cases j with
    | zero => rfl
    | succ j => exact ih j (by have hj : j + 1 < L.length + 1 := hj; omega)
theorem gdl_r {α : Type} (x : α) (L1 L2 : List α) : ∀ j, (L1 ++ L2).getD (L1.length + j) x = L2.getD j x := by
  induction L1 with
  | nil => intro j; show L2.getD (0 + j) x = _; rw [Nat.zero_add]
  | cons c L ih =>
    intro j
    show ((c :: (L ++ L2)).getD (L.length + 1 + j) x) = _
    rw [show L.length + 1 + j = (L.length + j) + 1 from by omega]
    exact ih j
theorem ClI.ext {cc : Nat} {kd en st : Nat → Nat} {vs : Nat → (Nat → Int32) → Bool} {L Lc : List (Int32 × Int32 × Int32)} {C Lm : List Int32} (h : ClI cc kd en st vs L C) {a : Nat} {v : (Nat → Int32) → Bool} (ha : a ≤ 5) (hd : Dep6 v) (hc : PiC v Lc) (hm : PiM v Lm) : ClI (cc + 1) (upN kd cc a) (upN en cc (L ++ Lc).length) (upN st (cc + 1) (C ++ Lm).length) (upN vs cc v) (L ++ Lc) (C ++ Lm) := by
  obtain ⟨h1, h2, h3⟩ := h
  have cb : ∀ k, k ≤ cc → clB (upN en cc (L ++ Lc).length) k = clB en k := fun k hk => by
    unfold clB
    by_cases q : k = 0
    · rw [if_pos q, if_pos q]
    · rw [if_neg q, if_neg q, upN_n (by omega)]
  refine ⟨?_, upN_s, fun k hk => ?_⟩
  · unfold clB
    rw [if_neg (by omega), Nat.add_sub_cancel, upN_s]
  · by_cases q : k = cc
    · subst q
      rw [upN_s, upN_s, upN_s, upN_s, cb k (Nat.le_refl _), upN_n (show k ≠ k + 1 by omega), h1, h2]
      refine ⟨ha, hd, ⟨Lc, hc, List.length_append.symm, Nat.le_refl _, fun j hj => gdl_r _ _ _ j⟩, Lm, hm, List.length_append.symm, Nat.le_refl _, fun j hj => gdl_r _ _ _ j⟩
    · obtain ⟨k1, k2, ⟨Lc0, k3, k4, k5, k6⟩, Lm0, k7, k8, k9, k10⟩ := h3 k (by omega)
      rw [upN_n q, upN_n q, upN_n q, cb k (by omega), upN_n (show k ≠ cc + 1 by omega), upN_n (show k + 1 ≠ cc + 1 by omega)]
      have l1 : (L ++ Lc).length = L.length + Lc.length := List.length_append
      have l2 : (C ++ Lm).length = C.length + Lm.length := List.length_append
      exact ⟨k1, k2, ⟨Lc0, k3, k4, by omega, fun j hj => (gdl_l _ _ _ _ (by omega)).trans (k6 j hj)⟩, Lm0, k7, k8, by omega, fun j hj => (gdl_l _ _ _ _ (by omega)).trans (k10 j hj)⟩
section
variable {B : Nat → Nat} {n N : Nat} {S T : hs}
theorem rt_0 {f : Nat} {x2 : Int32} {K0 : hs → Int32 → Int32 → Option (Int32 × hs)} : lp_R_readText_24 K0 (f + 1) S 0 x2 = K0 S 0 x2 := by
  rw [lp_R_readText_24, if_pos (show (0 : Int32) = 0 from rfl)]
  split <;> rfl
theorem l26_1 {i f : Nat} {C : List Int32} (h : MP S B n i 1 C) {K0 : hs → Int32 → Option (Int32 × hs)} {x : Int32} : lp_M_law_26 K0 (f + 1) S x = K0 S x := by
  rw [l26_e, h.2.2.2.1, if_neg (by decide)]
theorem tx_l (hN : TN B n N) : ∀ (k i cc : Nat) (L : List (Int32 × Int32 × Int32)) (C : List Int32) (kd en st : Nat → Nat) (vs : Nat → (Nat → Int32) → Bool), N - i ≤ k → i ≤ N → cc ≤ 8 → 2 * L.length ≤ stq B n i → C.length ≤ stq B n i → ClI cc kd en st vs L C →
    ∃ (ok : Bool) (i' cc' : Nat) (L' : List (Int32 × Int32 × Int32)) (C' : List Int32) (kd' en' st' : Nat → Nat) (vs' : Nat → (Nat → Int32) → Bool), (ok = true → cc' ≤ 8 ∧ L'.length ≤ 100 ∧ C'.length ≤ 200 ∧ ClI cc' kd' en' st' vs' L' C') ∧
      (∀ (S : hs) (f : Nat) (K0 : hs → Int32 → Int32 → Option (Int32 × hs)), CP S B n N i L → ClC S cc kd en → k + 1 < f → ∃ U y L2, lp_R_readText_24 K0 f S 1 (iN cc) = K0 U (bI ok) y ∧ Fc PcT S U ∧ CP U B n N i' L2 ∧ (ok = true → L2 = L' ∧ ClC U cc' kd' en')) ∧
      (∀ (S : hs) (f : Nat) (K0 : hs → Int32 → Option (Int32 × hs)), MP S B n i 0 C → gI S 191 10 = iN 0 → ClM S cc kd st → k + 1 < f → ∃ U C2 x, lp_M_law_26 K0 f S (iN cc) = K0 U x ∧ Fc PmX S U ∧ MP U B n i' (bif ok then 0 else 1) C2 ∧ (ok = true → C2 = C' ∧ x = iN cc' ∧ ClM U cc' kd' st')) := by
  have hn := hN.1
  have hB := hN.2.2.2.2
  have fin : ∀ (k cc : Nat) (L : List (Int32 × Int32 × Int32)) (C : List Int32) (kd en st : Nat → Nat) (vs : Nat → (Nat → Int32) → Bool), cc ≤ 8 → 2 * L.length ≤ stq B n N → C.length ≤ stq B n N → ClI cc kd en st vs L C →
      ∃ (ok : Bool) (i' cc' : Nat) (L' : List (Int32 × Int32 × Int32)) (C' : List Int32) (kd' en' st' : Nat → Nat) (vs' : Nat → (Nat → Int32) → Bool), (ok = true → cc' ≤ 8 ∧ L'.length ≤ 100 ∧ C'.length ≤ 200 ∧ ClI cc' kd' en' st' vs' L' C') ∧
        (∀ (S : hs) (f : Nat) (K0 : hs → Int32 → Int32 → Option (Int32 × hs)), CP S B n N N L → ClC S cc kd en → k + 1 < f → ∃ U y L2, lp_R_readText_24 K0 f S 1 (iN cc) = K0 U (bI ok) y ∧ Fc PcT S U ∧ CP U B n N i' L2 ∧ (ok = true → L2 = L' ∧ ClC U cc' kd' en')) ∧
        (∀ (S : hs) (f : Nat) (K0 : hs → Int32 → Option (Int32 × hs)), MP S B n N 0 C → gI S 191 10 = iN 0 → ClM S cc kd st → k + 1 < f → ∃ U C2 x, lp_M_law_26 K0 f S (iN cc) = K0 U x ∧ Fc PmX S U ∧ MP U B n i' (bif ok then 0 else 1) C2 ∧ (ok = true → C2 = C' ∧ x = iN cc' ∧ ClM U cc' kd' st')) := by
    intro k cc L C kd en st vs h1 h2 h3 h4
    have e := hN.2.2.1
    refine ⟨true, N, cc, L, C, kd, en, st, vs, fun _ => ⟨h1, by omega, by omega, h4⟩, fun S f K0 hS hc hf => ?_, fun S f K0 hS hd hc hf => ?_⟩
    · obtain ⟨f, rfl⟩ : ∃ z, f = z + 1 := ⟨f - 1, by omega⟩
      refine ⟨S, iN cc, L, ?_, Fc.rfl', hS, fun _ => ⟨rfl, hc⟩⟩
      rw [lp_R_readText_24, if_neg (lt_n (a := 8) rfl (iN_i (by omega)) (by omega)), if_neg (by decide), hS.2.2.2.2.1, hN.end, if_pos rfl]; rfl
    · obtain ⟨f, rfl⟩ : ∃ z, f = z + 1 := ⟨f - 1, by omega⟩
      refine ⟨S, C, iN cc, ?_, Fc.rfl', hS, fun _ => ⟨rfl, rfl, hc⟩⟩
      have k0 : kdq B n N = 0 := by unfold kdq; rw [if_neg (by omega)]
      rw [l26_e, hS.2.2.2.1, if_pos (show iN 0 = (0 : Int32) from rfl), hS.2.2.1.2.2, k0, if_pos (show iN 0 = (0 : Int32) from rfl)]
  intro k
  induction k with
  | zero =>
    intro i cc L C kd en st vs h1 h2 h3 h4 h5 h6
    obtain rfl : i = N := by omega
    exact fin 0 cc L C kd en st vs h3 h4 h5 h6
  | succ k ih =>
    intro i cc L C kd en st vs h1 h2 h3 h4 h5 h6
    by_cases hi : i = N
    · subst hi
      exact fin (k + 1) cc L C kd en st vs h3 h4 h5 h6
    · have hi : i < N := by omega
      have t0 := (tk_n0 hB (hN.2.2.2.1 i hi)).1
      obtain ⟨ok, i1, a, Lc, Lm, v, hg, hc, hm⟩ := cl_one hN hi h3 h4 h5
      have cls : ∀ (S : hs) (f : Nat) (K0 : hs → Int32 → Int32 → Option (Int32 × hs)), CP S B n N i L → ClC S cc kd en → ∃ U L2, lp_R_readText_24 K0 (f + 1) S 1 (iN cc) = lp_R_readText_24 K0 f U (bI ok) (iN (cc + 1)) ∧ Fc PcT S U ∧ CP U B n N i1 L2 ∧ (ok = true → L2 = L ++ Lc ∧ ClC U (cc + 1) (upN kd cc a) (upN en cc (L ++ Lc).length)) := by
        intro S f K0 hS hcc
        obtain ⟨U, L2, a1, a2, a3, a4⟩ := hc S hS hcc.1
        refine ⟨U, L2, ?_, a2, a3, fun z => ?_⟩
        · rw [lp_R_readText_24, if_neg (lt_n (a := 8) rfl (iN_i (by omega)) (by omega)), if_neg (by decide), hS.2.2.2.2.1, if_neg t0, a1, bd_s, iN_1]
        · obtain ⟨b1, b2, b3, b4, b5⟩ := a4 z
          refine ⟨b1, b2, fun k' hk => ?_⟩
          by_cases q : k' = cc
          · subst q
            rw [upN_s, upN_s]; exact ⟨b3, b4⟩
          · rw [upN_n q, upN_n q, (b5 k' q).1, (b5 k' q).2]; exact hcc.2 k' (by omega)
      have mdl : ∀ (S : hs) (f : Nat) (K0 : hs → Int32 → Option (Int32 × hs)), MP S B n i 0 C → gI S 191 10 = iN 0 → ClM S cc kd st → ∃ U C2 x, lp_M_law_26 K0 (f + 1) S (iN cc) = lp_M_law_26 K0 f U x ∧ Fc PmX S U ∧ MP U B n i1 (bif ok then 0 else 1) C2 ∧ (ok = true → x = iN (cc + 1) ∧ gI U 191 10 = iN 0 ∧ C2 = C ++ Lm ∧ ClM U (cc + 1) (upN kd cc a) (upN st (cc + 1) (C ++ Lm).length)) := by
        intro S f K0 hS hd hcm
        obtain ⟨U, C2, x, a1, a2, a3, a4⟩ := hm S f K0 hS hd
        refine ⟨U, C2, x, a1, a2, a3, fun z => ?_⟩
        obtain ⟨b1, b2, b3, b4, b5, b6⟩ := a4 z
        refine ⟨b1, b2, b3, fun k' hk => ?_⟩
        rw [upN_n (show k' ≠ cc + 1 by omega)]
        by_cases q : k' = cc
        · subst q
          rw [upN_s, h6.2.1]; exact ⟨b4, b5⟩
        · rw [upN_n q, (b6 k' q).1, (b6 k' q).2]; exact hcm k' (by omega)
      cases ok with
      | false =>
        refine ⟨false, i1, 0, [], [], fun _ => 0, fun _ => 0, fun _ => 0, fun _ _ => true, (fun z => by cases z), fun S f K0 hS hcc hf => ?_, fun S f K0 hS hd hcm hf => ?_⟩
        · obtain ⟨f, rfl⟩ : ∃ z, f = z + 1 + 1 := ⟨f - 2, by omega⟩
          obtain ⟨U, L2, a1, a2, a3, a4⟩ := cls S (f + 1) K0 hS hcc
          exact ⟨U, _, L2, a1.trans rt_0, a2, a3, fun z => by cases z⟩
        · obtain ⟨f, rfl⟩ : ∃ z, f = z + 1 + 1 := ⟨f - 2, by omega⟩
          obtain ⟨U, C2, x, a1, a2, a3, a4⟩ := mdl S (f + 1) K0 hS hd hcm
          exact ⟨U, C2, x, a1.trans (l26_1 a3), a2, a3, fun z => by cases z⟩
      | true =>
        obtain ⟨g1, g2, g3, g4, g5, g6, g7, g8, g9⟩ := hg rfl
        obtain ⟨ok2, i2, cc2, L2, C2, kd2, en2, st2, vs2, r1, r2, r3⟩ := ih i1 (cc + 1) (L ++ Lc) (C ++ Lm) _ _ _ _ (by omega) g4 (by omega) g5 g6 (h6.ext g2 g9 g7 g8)
        refine ⟨ok2, i2, cc2, L2, C2, kd2, en2, st2, vs2, r1, fun S f K0 hS hcc hf => ?_, fun S f K0 hS hd hcm hf => ?_⟩
        · obtain ⟨f, rfl⟩ : ∃ z, f = z + 1 := ⟨f - 1, by omega⟩
          obtain ⟨U, L3, a1, a2, a3, a4⟩ := cls S f K0 hS hcc
          obtain ⟨a5, a6⟩ := a4 rfl
          subst a5
          obtain ⟨V, y, L4, b1, b2, b3, b4⟩ := r2 U f K0 a3 a6 (by omega)
          exact ⟨V, y, L4, a1.trans b1, a2.trans b2, b3, b4⟩
        · obtain ⟨f, rfl⟩ : ∃ z, f = z + 1 := ⟨f - 1, by omega⟩
          obtain ⟨U, C3, x, a1, a2, a3, a4⟩ := mdl S f K0 hS hd hcm
          obtain ⟨a5, a6, a7, a8⟩ := a4 rfl
          subst a5 a7
          obtain ⟨V, C4, y, b1, b2, b3, b4⟩ := r3 U f K0 a3 a6 a8 (by omega)
          exact ⟨V, C4, y, a1.trans b1, a2.trans b2, b3, b4⟩
theorem pR_adv0 (hT : TpC S B n) (hK : TkC S B n N) (h6 : gI S 128 6 = -1) (hz : gI S 129 6 = 0) : ∃ U, f_R_advance S = some (0, U) ∧ Fc PcA S U ∧ CP U B n N 0 [] := by
  have n2 := hT.2.1
  have N2 := hK.2.1
  have e0 : (-1 : Int32) + (1 : Int32) = iN 0 := by decide
  have u6 : gI (uI S 128 6 (iN 0)) 128 6 = iN 0 := gI_us
  have u5 : gI (uI S 128 6 (iN 0)) 128 5 = iN N := (gI_un (by decide)).trans hK.1
  have key : f_R_advance S = some (0, uI (uI S 128 6 (iN 0)) 128 7 (tkc B n 0)) := by
    unfold f_R_advance
    rw [h6, e0, u6, u5, if_neg (l0 (by omega))]
    by_cases q : N ≤ 0
    · have q2 := tkc_N hK
      rw [show N = 0 from by omega] at q2
      rw [if_pos ((iN_le (by omega) (by omega)).mpr q), q2]
    · rw [if_neg (fun z => q ((iN_le (by omega) (by omega)).mp z)), if_neg (le_n (a := 200) rfl (iN_i (by omega)) (by omega)), ck_of (iN_b (by omega) (by decide)), iN_c (by omega), tkc_j hK (by omega), gI_ua (by decide)]
  have f : Fc PcA S (uI (uI S 128 6 (iN 0)) 128 7 (tkc B n 0)) := (Fc.rfl'.uI ⟨rfl, Or.inl rfl⟩).uI ⟨rfl, Or.inr rfl⟩
  refine ⟨_, key, f, hT.fc f (nPcA (by omega)) (fun _ => nPcA (by omega)), hK.fc f ⟨nPcA (by omega), fun _ => nPcA (by omega), fun _ => nPcA (by omega)⟩, Nat.zero_le _, ?_, gI_us, (f.1 _ _ (nPcA (by omega))).trans hz, Nat.zero_le _, fun j hj => absurd hj (Nat.not_lt_zero _)⟩
  rw [gI_un (by decide), gI_us]
end
