/-! one: nots, openings, comparisons. -/
def kP (g : hs → Option (Int32 × hs)) (y : Int32) (S : hs) : Option (Int32 × hs) := bd (g S) fun r20 S21 => (if y = 0 then ck (isB r20) (some (r20, S21)) else bd (f_A_addStep_129 S21 (3 : Int32) (0 : Int32) (0 : Int32)) fun _ S26 => ck (isB r20) (some (r20, S26)))
def kO (x1 : Int32) (rc : hs → Int32 → Option (Int32 × hs)) (S : hs) (y8 _y9 : Int32) : Option (Int32 × hs) := if (gI S 128 7) = (20140 : Int32) then kP (fun S => f_R_readInner rc S x1) y8 S else kP f_R_readComparison y8 S
theorem kO_e (rc : hs → Int32 → Option (Int32 × hs)) (S : hs) (x1 : Int32) : f_R_readOne rc S x1 = lp_R_readOne_4 x1 rc (kO x1 rc) 1000 S 0 0 := rfl
def mTl (oc : hs → Option (Int32 × hs)) (b : Int32) (S7 : hs) : Option (Int32 × hs) := bd (f_M_must S7 b) fun _ S167 => bd (f_M_condition oc (uI S167 191 10 ((gI S167 191 10) + (1 : Int32)))) fun _ S170 => bd (f_M_isSign (uI S170 191 10 ((gI S170 191 10) - (1 : Int32))) (41 : Int32)) fun r172 S173 => bd (f_M_must S173 r172) fun _ S176 => some ((0 : Int32), S176)
def mOpn (oc : hs → Option (Int32 × hs)) (S7 : hs) : Option (Int32 × hs) := if (3 : Int32) ≤ (gI S7 191 10) then mTl oc 0 S7 else mTl oc 1 S7
theorem one_e (oc : hs → Option (Int32 × hs)) (S : hs) : f_M_one oc S = (if gI S 191 9 = 0 then bd (f_M_isWord S 15) fun r2 S3 => (if r2 = 0 then bd (f_M_isSign S3 (40 : Int32)) fun r6 S7 => (if r6 = 0 then bd (f_M_value S7) fun _ S11 => mcT S11 else mOpn oc S7) else bd (f_M_must S3 (1 : Int32)) fun _ S191 => bd (oc S191) fun _ S194 => bd (f_M_tells S194 (20005 : Int32)) fun _ S197 => some ((0 : Int32), S197)) else some ((0 : Int32), S)) := rfl
section
variable {B : Nat → Nat} {n N : Nat} {S : hs}
theorem MP_u10 {i er : Nat} {C : List Int32} (h : MP S B n i er C) (v : Int32) : MP (uI S 191 10 v) B n i er C := by
  obtain ⟨h1, h2, h3, h4, h5, h6⟩ := h
  have f : Fc (fun a i => a = 191 ∧ i = 10) S (uI S 191 10 v) := Fc.rfl'.uI ⟨rfl, rfl⟩
  exact ⟨h1.fc f (by omega) (fun _ => by omega), h2.fc f (fun a i h1 h2 => by omega), h3.fc f ⟨by omega, by omega, by omega⟩, (f.1 _ _ (by omega)).trans h4, (f.1 _ _ (by omega)).trans h5, fun j hj => (f.1 _ _ (by omega)).trans (h6 j hj)⟩
theorem fin_p {d i b q : Nat} (p : Bool) {g fm : hs → Option (Int32 × hs)} (hN : TN B n N) (h : RdG B n N d i 0 g fm (GvO b q)) : RdG B n N d i (pbB p) (kP g (bI p)) fm (GvP p b q) := by
  obtain ⟨ok, i', Lc, Lm, h1, h2, h3⟩ := h
  have hn := hN.1
  have sn := stq_n (B := B) (n := n) i'
  cases p with
  | false =>
    refine ⟨ok, i', Lc, Lm, fun S L hS hL => ?_, h2, fun z => ?_⟩
    · obtain ⟨U, L', a1, a2, a3, a4⟩ := h1 S L hS hL
      exact ⟨U, L', by unfold kP; rw [a1, bd_s, if_pos (show bI false = 0 from rfl), ck_of (bI_B _)], a2, a3, a4⟩
    · obtain ⟨k1, k2, k3, k4, v, k5, k6, k7⟩ := h3 z
      have e : (fun f => false ^^ v f) = v := funext fun f => Bool.false_xor _
      exact ⟨k1, k2, k3, k4, v, by rw [e]; exact k5, k6, k7⟩
  | true =>
    refine ⟨ok, i', Lc ++ [(3, 0, 0)], Lm, fun S L hS hL => ?_, h2, fun z => ?_⟩
    · have hL : 2 * L.length + 2 ≤ stq B n i := hL
      obtain ⟨U, L', a1, a2, a3, a4⟩ := h1 S L hS (by omega)
      obtain ⟨V, L2, b1, b2, b3, b4⟩ := pA_addStepX a3 3 0 0
      refine ⟨V, L2, by unfold kP; rw [a1, bd_s, if_neg (show ¬ bI true = 0 by decide), b1, bd_s, ck_of (bI_B _)], a2.trans b2, b3, fun z => ?_⟩
      have e := a4 z
      have g := (h3 z).1
      rw [b4 (by rw [e, List.length_append]; omega), e, List.append_assoc]
    · obtain ⟨k1, k2, k3, k4, v, k5, k6, k7⟩ := h3 z
      have e : (fun f => true ^^ v f) = fun f => !v f := funext fun f => Bool.true_xor _
      exact ⟨by rw [List.length_append]; show 2 * (Lc.length + 1) + _ ≤ _ + 2; omega, k2, k3, k4, v, by rw [e]; exact k5.neg, k6, k7⟩
theorem gvP_f {b q : Nat} (Lc : List (Int32 × Int32 × Int32)) (Lm : List Int32) (h : GvP false b q Lc Lm) : GvO b q Lc Lm := by
  obtain ⟨v, h1, h2, h3⟩ := h
  have e : (fun f => false ^^ v f) = v := funext fun f => Bool.false_xor _
  rw [e] at h1
  exact ⟨v, h1, h2, h3⟩
theorem sg_41 {i er : Nat} {C : List Int32} (h : MP S B n i er C) : f_M_isSign S (41 : Int32) = some (bI (decide (tkc B n i = 20141)), S) := pM_isSign h.1 (c := 41) (by omega) h.2.2.1
theorem sg_40 {i er : Nat} {C : List Int32} (h : MP S B n i er C) : f_M_isSign S (40 : Int32) = some (bI (decide (tkc B n i = 20140)), S) := pM_isSign h.1 (c := 40) (by omega) h.2.2.1
theorem rd_open {d i b q : Nat} {rc : hs → Int32 → Option (Int32 × hs)} {oc : hs → Option (Int32 × hs)} (hN : TN B n N) (hi : i ≤ N) (hd3 : d ≤ 3) (t : tkc B n i = 20140) (ho : ∀ S i C, MP S B n i 1 C → oc S = some (0, S)) (H : d < 3 → RdG B n N (d + 1) (i + 1) 0 (fun S => rc S (iN (d + 1))) (f_M_condition oc) (GvO b q)) : RdG B n N d i 0 (fun S => f_R_readInner rc S (iN d)) (mOpn oc) (GvO b q) := by
  have hn := hN.1
  obtain ⟨l1, l2, l3⟩ := hN.lt hi (by rw [t]; decide)
  by_cases h3 : d < 3
  · obtain ⟨ok, i1, Lc, Lm, hc, hm, hg⟩ := H h3
    have cls : ∀ S L, CP S B n N i L → 2 * L.length + 0 ≤ stq B n i → ∃ U L1, f_R_readInner rc S (iN d) = (if bI ok = 0 then some ((0 : Int32), U) else (if (gI U 128 7) = (20141 : Int32) then bd (f_R_advance U) fun _ S11 => some ((1 : Int32), S11) else some ((0 : Int32), U))) ∧ Fc PcL S U ∧ CP U B n N i1 L1 ∧ (ok = true → L1 = L ++ Lc) := by
      intro S L hS hL
      obtain ⟨U1, a1, a2, a3⟩ := pR_advance hS l1
      obtain ⟨U2, L2, b1, b2, b3, b4⟩ := hc U1 L a3 (by omega)
      have b1 : rc U1 (iN (d + 1)) = some (bI ok, U2) := b1
      refine ⟨U2, L2, ?_, (a2.mono pcA).trans b2, b3, b4⟩
      unfold f_R_readInner
      rw [if_pos (lt_y (b := 3) (iN_i (by omega)) rfl (by omega)), a1, bd_s, iN_1, b1, bd_s]
    have mdl : ∀ S C, MP S B n i 0 C → gI S 191 10 = iN d → C.length + 3 ≤ stq B n i → ∃ U C1, mOpn oc S = (bd (f_M_isSign U (41 : Int32)) fun r172 S173 => bd (f_M_must S173 r172) fun _ S176 => some ((0 : Int32), S176)) ∧ Fc PmD S U ∧ gI U 191 10 = iN d ∧ MP U B n i1 (bif ok then 0 else 1) C1 ∧ (ok = true → C1 = C ++ Lm) := by
      intro S C hS hd hl
      obtain ⟨U1, a1, a2, a3⟩ := pM_mustT hS (b := 1) (by decide)
      have e1 : gI U1 191 10 = iN d := (a2.1 191 10 (nPl (by omega))).trans hd
      obtain ⟨U2, C2, b1, b2, b3, b4, b5⟩ := hm (uI U1 191 10 (iN (d + 1))) C (MP_u10 a3 _) gI_us (by omega)
      have e2 : iN (d + 1) - (1 : Int32) = iN d := by
        have : iN (d + 1) - iN 1 = iN (d + 1 - 1) := iN_s (by omega)
        exact this
      have f1 : Fc PmD U1 (uI U1 191 10 (iN (d + 1))) := Fc.rfl'.uI (Or.inr ⟨rfl, rfl⟩)
      refine ⟨uI U2 191 10 (iN d), C2, ?_, (((a2.mono pmD).trans f1).trans b2).uI (Or.inr ⟨rfl, rfl⟩), gI_us, MP_u10 b4 _, b5⟩
      unfold mOpn mTl
      rw [hd, if_neg (le_n (a := 3) rfl (iN_i (by omega)) (by omega)), a1, bd_s, e1, iN_1, b1, bd_s, b3, e2]
    cases ok with
    | false =>
      refine ⟨false, i1, [], [], fun S L hS hL => ?_, fun S C hS hd hl => ?_, fun z => by cases z⟩
      · obtain ⟨U, L1, a1, a2, a3, a4⟩ := cls S L hS hL
        exact ⟨U, L1, a1.trans (if_pos rfl), a2, a3, fun z => by cases z⟩
      · obtain ⟨U, C1, a1, a2, a3, a4, a5⟩ := mdl S C hS hd hl
        obtain ⟨V, b1, b2, b3⟩ := pM_mustF a4 (Nat.le_refl _) (b := bI (decide (tkc B n i1 = 20141))) (Or.inl rfl)
        exact ⟨V, C1, by rw [a1, sg_41 a4, bd_s, b1, bd_s], a2.trans (b2.mono pmD), (b2.1 191 10 (nPl (by omega))).trans a3, b3, fun z => by cases z⟩
    | true =>
      obtain ⟨g1, g2, g3, g4, g5⟩ := hg rfl
      by_cases t2 : tkc B n i1 = 20141
      · obtain ⟨m1, m2, m3⟩ := hN.lt g4 (by rw [t2]; decide)
        refine ⟨true, i1 + 1, Lc, Lm, fun S L hS hL => ?_, fun S C hS hd hl => ?_, fun _ => ⟨by omega, by omega, by omega, by omega, g5⟩⟩
        · obtain ⟨U, L1, a1, a2, a3, a4⟩ := cls S L hS hL
          obtain ⟨V, b1, b2, b3⟩ := pR_advance a3 m1
          refine ⟨V, L1, ?_, a2.trans (b2.mono pcA), b3, a4⟩
          show f_R_readInner rc S (iN d) = some (1, V)
          rw [a1, if_neg (by decide), a3.2.2.2.2.1, if_pos t2, b1, bd_s]
        · obtain ⟨U, C1, a1, a2, a3, a4, a5⟩ := mdl S C hS hd hl
          obtain ⟨V, b1, b2, b3⟩ := pM_mustT a4 (b := bI true) (by decide)
          exact ⟨V, C1, by rw [a1, sg_41 a4, bd_s, decide_eq_true t2, b1, bd_s], a2.trans (b2.mono pmD), (b2.1 191 10 (nPl (by omega))).trans a3, b3, a5⟩
      · refine ⟨false, i1, [], [], fun S L hS hL => ?_, fun S C hS hd hl => ?_, fun z => by cases z⟩
        · obtain ⟨U, L1, a1, a2, a3, a4⟩ := cls S L hS hL
          refine ⟨U, L1, ?_, a2, a3, fun z => by cases z⟩
          show f_R_readInner rc S (iN d) = some (0, U)
          rw [a1, if_neg (by decide), a3.2.2.2.2.1, if_neg t2]
        · obtain ⟨U, C1, a1, a2, a3, a4, a5⟩ := mdl S C hS hd hl
          obtain ⟨V, b1, b2, b3⟩ := pM_mustF a4 (Nat.zero_le _) (b := bI false) (Or.inr rfl)
          exact ⟨V, C1, by rw [a1, sg_41 a4, bd_s, decide_eq_false t2, b1, bd_s], a2.trans (b2.mono pmD), (b2.1 191 10 (nPl (by omega))).trans a3, b3, fun z => by cases z⟩
  · obtain rfl : d = 3 := by omega
    refine ⟨false, i, [], [], fun S L hS hL => ⟨S, L, ?_, Fc.rfl', hS, fun z => by cases z⟩, fun S C hS hd hl => ?_, fun z => by cases z⟩
    · show f_R_readInner rc S (iN 3) = some (0, S)
      unfold f_R_readInner
      rw [if_neg (by decide)]
    · obtain ⟨U1, a1, a2, a3⟩ := pM_mustF hS (by omega) (b := 0) (Or.inr rfl)
      have e1 : gI U1 191 10 = iN 3 := (a2.1 191 10 (nPl (by omega))).trans hd
      have m1 := MP_u10 a3 (iN 3 + (1 : Int32))
      have m2 := MP_u10 m1 (iN 3)
      obtain ⟨V, b1, b2, b3⟩ := pM_mustF m2 (by omega) (b := bI (decide (tkc B n i = 20141))) (Or.inl rfl)
      have f1 : Fc PmD U1 (uI (uI U1 191 10 (iN 3 + (1 : Int32))) 191 10 (iN 3)) := (Fc.rfl'.uI (Or.inr ⟨rfl, rfl⟩)).uI (Or.inr ⟨rfl, rfl⟩)
      have e3 : iN 3 + (1 : Int32) - (1 : Int32) = iN 3 := by decide
      refine ⟨V, C, ?_, ((a2.mono pmD).trans f1).trans (b2.mono pmD), (b2.1 191 10 (nPl (by omega))).trans gI_us, b3, fun z => by cases z⟩
      unfold mOpn mTl
      rw [hd, if_pos (by decide), a1, bd_s, e1, cond_1 m1 (ho _ _ _ m1), bd_s, gI_us, e3, sg_41 m2, bd_s, b1, bd_s]
theorem rd_one (hN : TN B n N) : ∀ (m d r i c f : Nat) (p : Bool), d ≤ 3 → 3 ≤ d + r → i ≤ N → n - stq B n i + 3 * (4 - d) ≤ 3 * m → c ≤ i → N - i < f → RdG B n N d i (pbB p) (fun S => lp_R_readOne_4 (iN d) (fx_rc r) (kO (iN d) (fx_rc r)) f S (bI p) (iN c)) (fx_oc m) (GvP p (58 + 2 * d) (2 + 2 * (3 - d))) := by
  have hn := hN.1
  have hNn := hN.2.1
  intro m
  induction m with
  | zero => intro d r i c f p h1 h2 h3 h4 h5 h6; omega
  | succ m ih =>
    intro d r i c f p h1 h2 h3 h4 h5 h6
    obtain ⟨f, rfl⟩ : ∃ z, f = z + 1 := ⟨f - 1, by omega⟩
    have sni := stq_n (B := B) (n := n) i
    have ho : ∀ S i C, MP S B n i 1 C → fx_oc (m + 1) S = some (0, S) := fun S i C h => fx_1 h
    by_cases t : tkc B n i = 20005
    · obtain ⟨l1, l2, l3⟩ := hN.lt h3 (by rw [t]; decide)
      have w3 : stq B n i + 3 ≤ stq B n (i + 1) := tk_wl hN.2.2.2.2 (a := 15) (by decide) t
      have sn1 := stq_n (B := B) (n := n) (i + 1)
      obtain ⟨ok, i1, Lc, Lm, hc, hm, hg⟩ := ih d r (i + 1) (c + 1) f (!p) h1 h2 (by omega) (by omega) (by omega) (by omega)
      have sn := stq_n (B := B) (n := n) i1
      have pb1 : pbB (!p) ≤ 2 := by cases p <;> decide
      refine ⟨ok, i1, Lc, Lm ++ [20005], fun S L hS hL => ?_, fun S C hS hd hl => ?_, fun z => ?_⟩
      · obtain ⟨U, a1, a2, a3⟩ := pR_advance hS l1
        obtain ⟨V, L', b1, b2, b3, b4⟩ := hc U L a3 (by omega)
        refine ⟨V, L', ?_, (a2.mono pcA).trans b2, b3, b4⟩
        show lp_R_readOne_4 _ _ _ (f + 1) S (bI p) (iN c) = _
        rw [lp_R_readOne_4, if_neg (le_n (a := 200) rfl (iN_i (by omega)) (by omega)), hS.2.2.2.2.1, if_pos t, a1, bd_s, iN_1]
        cases p with
        | true => exact (if_neg (by decide)).trans b1
        | false => exact (if_pos rfl).trans b1
      · obtain ⟨U1, a1, a2, a3⟩ := pM_mustT hS (b := 1) (by decide)
        obtain ⟨U2, C2, b1, b2, b3, b4, b5⟩ := hm U1 C a3 ((a2.1 191 10 (nPl (by omega))).trans hd) (by omega)
        have st : ∃ U3 C3, f_M_tells U2 20005 = some (0, U3) ∧ Fc PmL U2 U3 ∧ MP U3 B n i1 (bif ok then 0 else 1) C3 ∧ (ok = true → C3 = C ++ (Lm ++ [20005])) := by
          cases ok with
          | true =>
            have e := b5 rfl
            have g := (hg rfl).2.1
            obtain ⟨U3, c1, c2, c3⟩ := pM_tells0 b4 (by rw [e, List.length_append]; omega) 20005
            exact ⟨U3, _, c1, c2, c3, fun _ => by rw [e, List.append_assoc]⟩
          | false => exact ⟨U2, C2, pM_tells1 b4 _, Fc.rfl', b4, fun z => by cases z⟩
        obtain ⟨U3, C3, c1, c2, c3, c4⟩ := st
        refine ⟨U3, C3, ?_, ((a2.mono pmD).trans b2).trans (c2.mono pmD), (c2.1 191 10 (nPl (by omega))).trans b3, c3, c4⟩
        show f_M_one (fx_oc m) S = _
        rw [one_e, hS.2.2.2.1, if_pos (show iN 0 = (0 : Int32) from rfl), pM_isWord hS.1 hS.2.1 (a := 15) (by omega) hS.2.2.1, bd_s, decide_eq_true (show tkc B n i = wdC 15 from t), if_neg (by decide), a1, bd_s, b1, bd_s, c1, bd_s]
      · obtain ⟨k1, k2, k3, k4, v, k5, k6, k7⟩ := hg z
        have e : (fun f => p ^^ (!v f)) = fun f => (!p) ^^ v f := funext fun f => by cases p <;> cases v f <;> rfl
        refine ⟨by omega, by rw [List.length_append]; show _ + 1 + _ ≤ _; omega, by omega, k4, fun f => !v f, by rw [e]; exact k5, k6.neg (by omega), k7.neg⟩
    · have ce : ∀ S L, CP S B n N i L → lp_R_readOne_4 (iN d) (fx_rc r) (kO (iN d) (fx_rc r)) (f + 1) S (bI p) (iN c) = kO (iN d) (fx_rc r) S (bI p) (iN c) := fun S L hS => by
        rw [lp_R_readOne_4, hS.2.2.2.2.1, if_neg t]
        split <;> rfl
      have me : ∀ S C, MP S B n i 0 C → f_M_one (fx_oc m) S = (bif decide (tkc B n i = 20140) then mOpn (fx_oc m) S else (bd (f_M_value S) fun _ S11 => mcT S11)) := fun S C hS => by
        rw [one_e, hS.2.2.2.1, if_pos (show iN 0 = (0 : Int32) from rfl), pM_isWord hS.1 hS.2.1 (a := 15) (by omega) hS.2.2.1, bd_s, decide_eq_false (show ¬ tkc B n i = wdC 15 from t), if_pos (by decide), sg_40 hS, bd_s, if_bI]
      by_cases t2 : tkc B n i = 20140
      · obtain ⟨l1, l2, l3⟩ := hN.lt h3 (by rw [t2]; decide)
        obtain ⟨m, rfl⟩ : ∃ z, m = z + 1 := ⟨m - 1, by omega⟩
        refine RdG.congr (fin_p p hN (rd_open (rc := fx_rc r) (oc := fx_oc (m + 1)) (b := 58 + 2 * d) (q := 2 + 2 * (3 - d)) hN h3 h1 t2 (fun S i C h => fx_1 h) (fun d3 => ?_))) (fun S L hS => ?_) (fun S C hS hd => ?_)
        · obtain ⟨r, rfl⟩ : ∃ z, r = z + 1 := ⟨r - 1, by omega⟩
          have hH : ∀ j, j ≤ N → stq B n (i + 1) ≤ stq B n j → RdG B n N (d + 1) j 0 (fun S => f_R_readOne (fx_rc r) S (iN (d + 1))) (fx_oc (m + 1)) (GvO (57 + 2 * (d + 1) + 1) (2 + 2 * (3 - (d + 1)))) := fun j hj hs1 => by
            have snj := stq_n (B := B) (n := n) j
            exact (ih (d + 1) r j 0 1000 false (by omega) (by omega) hj (by omega) (Nat.zero_le _) (by omega)).mono (fun Lc Lm z => (gvP_f Lc Lm z).mono (by omega) (by omega))
          have hA : ∀ j, j ≤ N → stq B n (i + 1) ≤ stq B n j → RdG B n N (d + 1) j 0 (fun S => f_R_readAll (fx_rc r) S (iN (d + 1))) (f_M_all (fx_oc (m + 1))) (GvO (56 + 2 * (d + 1) + 1) (2 + 2 * (3 - (d + 1)) + 1)) := fun j hj hs1 =>
            (rd_all hN (by omega) (by omega) (by omega) hj (fun j' hj' hs2 => hH j' hj' (by omega))).mono (fun Lc Lm z => z.mono (by omega) (by omega))
          exact (rd_cond hN (by omega) (by omega) (by omega) (by omega) hA).mono (fun Lc Lm z => z.mono (by omega) (by omega))
        · rw [ce S L hS]
          unfold kO
          rw [hS.2.2.2.2.1, if_pos t2]
        · show f_M_one (fx_oc (m + 1)) S = _
          rw [me S C hS, decide_eq_true t2, bt_t]
      · refine RdG.congr (fin_p p hN ((rd_comp hN h3).mono (fun Lc Lm z => z.mono (b' := 58 + 2 * d) (q' := 2 + 2 * (3 - d)) (by omega) (by omega)))) (fun S L hS => ?_) (fun S C hS hd => ?_)
        · rw [ce S L hS]
          unfold kO
          rw [hS.2.2.2.2.1, if_neg t2]
        · show f_M_one (fx_oc m) S = _
          rw [me S C hS, decide_eq_false t2, bt_f]
/-- a whole condition -/
theorem rd_top (hN : TN B n N) {i : Nat} (hi : i ≤ N) : RdG B n N 0 i 0 (fun S => f_R_readCond (fx_rc 5) S (0 : Int32)) (f_M_condition (fx_oc 80)) (GvO 56 10) := by
  have hn := hN.1
  have hNn := hN.2.1
  have hH : ∀ j, j ≤ N → stq B n i ≤ stq B n j → RdG B n N 0 j 0 (fun S => f_R_readOne (fx_rc 5) S (iN 0)) (fx_oc 80) (GvO (57 + 1) 8) := fun j hj hs1 => by
    have snj := stq_n (B := B) (n := n) j
    exact (rd_one hN 80 0 5 j 0 1000 false (by omega) (by omega) hj (by omega) (Nat.zero_le _) (by omega)).mono (fun Lc Lm z => (gvP_f Lc Lm z).mono (by omega) (by omega))
  have hA : ∀ j, j ≤ N → stq B n i ≤ stq B n j → RdG B n N 0 j 0 (fun S => f_R_readAll (fx_rc 5) S (iN 0)) (f_M_all (fx_oc 80)) (GvO (56 + 1) 9) := fun j hj hs1 =>
    rd_all hN (by omega) (by omega) (by omega) hj (fun j' hj' hs2 => hH j' hj' (by omega))
  exact rd_cond hN (by omega) (by omega) (by omega) hi hA
end
