/-! all and condition: the loops of both sides. -/
section
variable {B : Nat → Nat} {n N : Nat} {S : hs}
theorem al_no {d b q c f f' i : Nat} {rc : hs → Int32 → Option (Int32 × hs)} {oc : hs → Option (Int32 × hs)} (h : tkc B n i ≠ 20004) (hi : i ≤ N) : RdG B n N d i 0 (fun S => lp_R_readAll_8 (iN d) rc (f + 1) S 1 (iN c)) (lp_M_all_4 oc (f' + 1)) (GvL b q) := by
  refine ⟨true, i, [], [], fun S L hS hL => ⟨S, L, ?_, Fc.rfl', hS, fun _ => (List.append_nil L).symm⟩, fun S C hS hd hl => ⟨S, C, ?_, Fc.rfl', hd, hS, fun _ => (List.append_nil C).symm⟩, fun _ => ⟨by show 2 * 0 + _ ≤ _; omega, by show 0 + _ ≤ _; omega, Nat.le_refl _, hi, fun Lc0 Lm0 v0 h1 h2 h3 => ⟨v0, by rw [List.append_nil]; exact h1, by rw [List.append_nil]; exact h2, h3⟩⟩⟩
  · show lp_R_readAll_8 (iN d) rc (f + 1) S 1 (iN c) = some (1, S)
    rw [lp_R_readAll_8, hS.2.2.2.2.1, if_neg (show ¬ (1 : Int32) = 0 by decide), if_neg h]
    split <;> rfl
  · rw [lp_M_all_4, hS.2.2.2.1, if_pos (show iN 0 = (0 : Int32) from rfl), pM_isWord hS.1 hS.2.1 (a := 14) (by omega) hS.2.2.1, bd_s, decide_eq_false (show ¬ tkc B n i = wdC 14 from h), if_pos (by decide)]
theorem al_0 {f : Nat} {x1 x3 : Int32} {rc : hs → Int32 → Option (Int32 × hs)} : lp_R_readAll_8 x1 rc (f + 1) S 0 x3 = some (0, S) := by
  rw [lp_R_readAll_8, if_pos (show (0 : Int32) = 0 from rfl)]
  split <;> rfl
theorem al_l {d b q s0 : Nat} {rc : hs → Int32 → Option (Int32 × hs)} {oc : hs → Option (Int32 × hs)} (hN : TN B n N) (hq : 1 ≤ q) (hb : 1 ≤ b) (hb2 : b + 1 ≤ 64) (H : ∀ j, j ≤ N → s0 ≤ stq B n j → RdG B n N d j 0 (fun S => f_R_readOne rc S (iN d)) (oc) (GvO (b + 1) q)) : ∀ (k i c f f' : Nat), N - i ≤ k → i ≤ N → s0 ≤ stq B n i → c ≤ i → k < f → k < f' → RdG B n N d i 0 (fun S => lp_R_readAll_8 (iN d) rc f S 1 (iN c)) (lp_M_all_4 oc f') (GvL b (q + 1)) := by
  have hn := hN.1
  have hNn := hN.2.1
  intro k
  induction k with
  | zero =>
    intro i c f f' h1 h2 h3 h4 h5 h6
    obtain ⟨f, rfl⟩ : ∃ z, f = z + 1 := ⟨f - 1, by omega⟩
    obtain ⟨f', rfl⟩ : ∃ z, f' = z + 1 := ⟨f' - 1, by omega⟩
    obtain rfl : i = N := by omega
    exact al_no (by rw [hN.end]; decide) h2
  | succ k ih =>
    intro i c f f' h1 h2 h3 h4 h5 h6
    obtain ⟨f, rfl⟩ : ∃ z, f = z + 1 := ⟨f - 1, by omega⟩
    obtain ⟨f', rfl⟩ : ∃ z, f' = z + 1 := ⟨f' - 1, by omega⟩
    by_cases t : tkc B n i = 20004
    · obtain ⟨l1, l2, l3⟩ := hN.lt h2 (by rw [t]; decide)
      have w3 : stq B n i + 3 ≤ stq B n (i + 1) := tk_wl hN.2.2.2.2 (a := 14) (by decide) t
      obtain ⟨ok, i1, Lc, Lm, hc, hm, hg⟩ := H (i + 1) (by omega) (by omega)
      have sn := stq_n (B := B) (n := n) i1
      have cls : ∀ S L, CP S B n N i L → 2 * L.length + 0 ≤ stq B n i → ∃ U L1, lp_R_readAll_8 (iN d) rc (f + 1) S 1 (iN c) = lp_R_readAll_8 (iN d) rc f U (bI ok) (iN (c + 1)) ∧ Fc PcL S U ∧ CP U B n N i1 L1 ∧ (ok = true → L1 = L ++ (Lc ++ [(4, 0, 0)])) := by
        intro S L hS hL
        obtain ⟨U1, a1, a2, a3⟩ := pR_advance hS l1
        obtain ⟨U2, L2, b1, b2, b3, b4⟩ := hc U1 L a3 (by omega)
        obtain ⟨U3, L3, c1, c2, c3, c4⟩ := pA_addStepX b3 4 0 0
        have b1 : f_R_readOne rc U1 (iN d) = some (bI ok, U2) := b1
        refine ⟨U3, L3, ?_, ((a2.mono pcA).trans b2).trans c2, c3, fun z => ?_⟩
        · rw [lp_R_readAll_8, if_neg (le_n (a := 200) rfl (iN_i (by omega)) (by omega)), if_neg (show ¬ (1 : Int32) = 0 by decide), hS.2.2.2.2.1, if_pos t, a1, bd_s, b1, bd_s, c1, bd_s, iN_1]
        · have g := (hg z).1
          have e := b4 z
          rw [c4 (by rw [e, List.length_append]; omega), e, List.append_assoc]
      have mdl : ∀ S C, MP S B n i 0 C → gI S 191 10 = iN d → C.length + 3 ≤ stq B n i → ∃ U C1, lp_M_all_4 oc (f' + 1) S = lp_M_all_4 oc f' U ∧ Fc PmD S U ∧ gI U 191 10 = iN d ∧ MP U B n i1 (bif ok then 0 else 1) C1 ∧ (ok = true → C1 = C ++ (Lm ++ [20001])) := by
        intro S C hS hd hl
        obtain ⟨U1, a1, a2, a3⟩ := pM_mustT hS (b := 1) (by decide)
        obtain ⟨U2, C2, b1, b2, b3, b4, b5⟩ := hm U1 C a3 ((a2.1 191 10 (nPl (by omega))).trans hd) (by omega)
        have st : ∃ U3 C3, f_M_tells U2 20001 = some (0, U3) ∧ Fc PmL U2 U3 ∧ MP U3 B n i1 (bif ok then 0 else 1) C3 ∧ (ok = true → C3 = C ++ (Lm ++ [20001])) := by
          cases ok with
          | true =>
            have e := b5 rfl
            have g := (hg rfl).2.1
            obtain ⟨U3, c1, c2, c3⟩ := pM_tells0 b4 (by rw [e, List.length_append]; omega) 20001
            exact ⟨U3, _, c1, c2, c3, fun _ => by rw [e, List.append_assoc]⟩
          | false => exact ⟨U2, C2, pM_tells1 b4 _, Fc.rfl', b4, fun z => by cases z⟩
        obtain ⟨U3, C3, c1, c2, c3, c4⟩ := st
        refine ⟨U3, C3, ?_, ((a2.mono pmD).trans b2).trans (c2.mono pmD), (c2.1 191 10 (nPl (by omega))).trans b3, c3, c4⟩
        rw [lp_M_all_4, hS.2.2.2.1, if_pos (show iN 0 = (0 : Int32) from rfl), pM_isWord hS.1 hS.2.1 (a := 14) (by omega) hS.2.2.1, bd_s, decide_eq_true (show tkc B n i = wdC 14 from t), if_neg (by decide), a1, bd_s, b1, bd_s, c1, bd_s]
      cases ok with
      | false =>
        obtain ⟨f, rfl⟩ : ∃ z, f = z + 1 := ⟨f - 1, by omega⟩
        obtain ⟨f', rfl⟩ : ∃ z, f' = z + 1 := ⟨f' - 1, by omega⟩
        refine ⟨false, i1, [], [], fun S L hS hL => ?_, fun S C hS hd hl => ?_, fun z => by cases z⟩
        · obtain ⟨U, L1, a1, a2, a3, a4⟩ := cls S L hS hL
          exact ⟨U, L1, a1.trans al_0, a2, a3, fun z => by cases z⟩
        · obtain ⟨U, C1, a1, a2, a3, a4, a5⟩ := mdl S C hS hd hl
          exact ⟨U, C1, a1.trans (al4_1 a4), a2, a3, a4, fun z => by cases z⟩
      | true =>
        obtain ⟨g1, g2, g3, g4, v1, g5, g6, g7⟩ := hg rfl
        obtain ⟨ok2, i2, Lc2, Lm2, hc2, hm2, hg2⟩ := ih i1 (c + 1) f f' (by omega) (by omega) (by omega) (by omega) (by omega) (by omega)
        refine ⟨ok2, i2, Lc ++ [(4, 0, 0)] ++ Lc2, Lm ++ [20001] ++ Lm2, fun S L hS hL => ?_, fun S C hS hd hl => ?_, fun z => ?_⟩
        · obtain ⟨U, L1, a1, a2, a3, a4⟩ := cls S L hS hL
          have e := a4 rfl
          have le : L1.length = L.length + (Lc.length + 1) := by rw [e, List.length_append, List.length_append]; rfl
          obtain ⟨V, L2, b1, b2, b3, b4⟩ := hc2 U L1 a3 (by omega)
          exact ⟨V, L2, a1.trans b1, a2.trans b2, b3, fun z => by rw [b4 z, e, List.append_assoc]⟩
        · obtain ⟨U, C1, a1, a2, a3, a4, a5⟩ := mdl S C hS hd hl
          have e := a5 rfl
          have le : C1.length = C.length + (Lm.length + 1) := by rw [e, List.length_append, List.length_append]; rfl
          obtain ⟨V, C2, b1, b2, b3, b4, b5⟩ := hm2 U C1 a4 a3 (by omega)
          exact ⟨V, C2, a1.trans b1, a2.trans b2, b3, b4, fun z => by rw [b5 z, e, List.append_assoc]⟩
        · obtain ⟨k1, k2, k3, k4, k5⟩ := hg2 z
          have l1 : (Lc ++ [(4, 0, 0)] ++ Lc2).length = Lc.length + 1 + Lc2.length := by rw [List.length_append, List.length_append]; rfl
          have l2 : (Lm ++ [20001] ++ Lm2).length = Lm.length + 1 + Lm2.length := by rw [List.length_append, List.length_append]; rfl
          refine ⟨by rw [l1]; omega, by rw [l2]; omega, by omega, k4, fun Lc0 Lm0 v0 p1 p2 p3 => ?_⟩
          have := k5 (Lc0 ++ Lc ++ [(4, 0, 0)]) (Lm0 ++ Lm ++ [20001]) _ (p1.and g5 (Nat.le_refl _) (Nat.le_refl _) hb2 (by omega)) (PushM.two (by decide) (by decide) (fun S x y => did_a x y) p2 g6 (Nat.le_refl _) (Nat.le_refl _) (by omega)) (p3.and g7)
          simpa only [List.append_assoc] using this
    · exact al_no t h2
theorem rd_all {d b q i : Nat} {rc : hs → Int32 → Option (Int32 × hs)} {oc : hs → Option (Int32 × hs)} (hN : TN B n N) (hq : 1 ≤ q) (hb : 1 ≤ b) (hb2 : b + 1 ≤ 64) (hi : i ≤ N) (H : ∀ j, j ≤ N → stq B n i ≤ stq B n j → RdG B n N d j 0 (fun S => f_R_readOne rc S (iN d)) (oc) (GvO (b + 1) q)) : RdG B n N d i 0 (fun S => f_R_readAll rc S (iN d)) (f_M_all oc) (GvO b (q + 1)) := by
  have hn := hN.1
  have hNn := hN.2.1
  obtain ⟨ok, i1, Lc, Lm, hc, hm, hg⟩ := H i hi (Nat.le_refl _)
  cases ok with
  | false =>
    refine ⟨false, i1, [], [], fun S L hS hL => ?_, fun S C hS hd hl => ?_, fun z => by cases z⟩
    · obtain ⟨U, L1, a1, a2, a3, a4⟩ := hc S L hS hL
      have a1 : f_R_readOne rc S (iN d) = some (0, U) := a1
      exact ⟨U, L1, (bd_of a1).trans al_0, a2, a3, fun z => by cases z⟩
    · obtain ⟨U, C1, a1, a2, a3, a4, a5⟩ := hm S C hS hd hl
      exact ⟨U, C1, (bd_of a1).trans (al4_1 a4), a2, a3, a4, fun z => by cases z⟩
  | true =>
    obtain ⟨g1, g2, g3, g4, v1, g5, g6, g7⟩ := hg rfl
    obtain ⟨ok2, i2, Lc2, Lm2, hc2, hm2, hg2⟩ := al_l (s0 := stq B n i) hN hq hb hb2 H (N - i1) i1 0 1000 1000 (Nat.le_refl _) g4 (by omega) (Nat.zero_le _) (by omega) (by omega)
    refine ⟨ok2, i2, Lc ++ Lc2, Lm ++ Lm2, fun S L hS hL => ?_, fun S C hS hd hl => ?_, fun z => ?_⟩
    · obtain ⟨U, L1, a1, a2, a3, a4⟩ := hc S L hS hL
      have a1 : f_R_readOne rc S (iN d) = some (1, U) := a1
      have e := a4 rfl
      have le : L1.length = L.length + Lc.length := by rw [e, List.length_append]
      obtain ⟨V, L2, b1, b2, b3, b4⟩ := hc2 U L1 a3 (by omega)
      exact ⟨V, L2, (bd_of a1).trans b1, a2.trans b2, b3, fun z => by rw [b4 z, e, List.append_assoc]⟩
    · obtain ⟨U, C1, a1, a2, a3, a4, a5⟩ := hm S C hS hd hl
      have e := a5 rfl
      have le : C1.length = C.length + Lm.length := by rw [e, List.length_append]
      obtain ⟨V, C2, b1, b2, b3, b4, b5⟩ := hm2 U C1 a4 a3 (by omega)
      exact ⟨V, C2, (bd_of a1).trans b1, a2.trans b2, b3, b4, fun z => by rw [b5 z, e, List.append_assoc]⟩
    · obtain ⟨k1, k2, k3, k4, k5⟩ := hg2 z
      have l1 : (Lc ++ Lc2).length = Lc.length + Lc2.length := List.length_append
      have l2 : (Lm ++ Lm2).length = Lm.length + Lm2.length := List.length_append
      exact ⟨by rw [l1]; omega, by rw [l2]; omega, by omega, k4, k5 _ _ v1 (g5.mono (by omega)) (g6.mono (by omega)) g7⟩
theorem cd_no {d b q c f f' i : Nat} {rc : hs → Int32 → Option (Int32 × hs)} {oc : hs → Option (Int32 × hs)} (h : tkc B n i ≠ 20003) (hi : i ≤ N) : RdG B n N d i 0 (fun S => lp_R_readCond_8 (iN d) rc (f + 1) S 1 (iN c)) (lp_M_condition_4 oc (f' + 1)) (GvL b q) := by
  refine ⟨true, i, [], [], fun S L hS hL => ⟨S, L, ?_, Fc.rfl', hS, fun _ => (List.append_nil L).symm⟩, fun S C hS hd hl => ⟨S, C, ?_, Fc.rfl', hd, hS, fun _ => (List.append_nil C).symm⟩, fun _ => ⟨by show 2 * 0 + _ ≤ _; omega, by show 0 + _ ≤ _; omega, Nat.le_refl _, hi, fun Lc0 Lm0 v0 h1 h2 h3 => ⟨v0, by rw [List.append_nil]; exact h1, by rw [List.append_nil]; exact h2, h3⟩⟩⟩
  · show lp_R_readCond_8 (iN d) rc (f + 1) S 1 (iN c) = some (1, S)
    rw [lp_R_readCond_8, hS.2.2.2.2.1, if_neg (show ¬ (1 : Int32) = 0 by decide), if_neg h]
    split <;> rfl
  · rw [lp_M_condition_4, hS.2.2.2.1, if_pos (show iN 0 = (0 : Int32) from rfl), pM_isWord hS.1 hS.2.1 (a := 13) (by omega) hS.2.2.1, bd_s, decide_eq_false (show ¬ tkc B n i = wdC 13 from h), if_pos (by decide)]
theorem cd_0 {f : Nat} {x1 x3 : Int32} {rc : hs → Int32 → Option (Int32 × hs)} : lp_R_readCond_8 x1 rc (f + 1) S 0 x3 = some (0, S) := by
  rw [lp_R_readCond_8, if_pos (show (0 : Int32) = 0 from rfl)]
  split <;> rfl
theorem cd_l {d b q s0 : Nat} {rc : hs → Int32 → Option (Int32 × hs)} {oc : hs → Option (Int32 × hs)} (hN : TN B n N) (hq : 1 ≤ q) (hb : 1 ≤ b) (hb2 : b + 1 ≤ 64) (H : ∀ j, j ≤ N → s0 ≤ stq B n j → RdG B n N d j 0 (fun S => f_R_readAll rc S (iN d)) (f_M_all oc) (GvO (b + 1) q)) : ∀ (k i c f f' : Nat), N - i ≤ k → i ≤ N → s0 ≤ stq B n i → c ≤ i → k < f → k < f' → RdG B n N d i 0 (fun S => lp_R_readCond_8 (iN d) rc f S 1 (iN c)) (lp_M_condition_4 oc f') (GvL b (q + 1)) := by
  have hn := hN.1
  have hNn := hN.2.1
  intro k
  induction k with
  | zero =>
    intro i c f f' h1 h2 h3 h4 h5 h6
    obtain ⟨f, rfl⟩ : ∃ z, f = z + 1 := ⟨f - 1, by omega⟩
    obtain ⟨f', rfl⟩ : ∃ z, f' = z + 1 := ⟨f' - 1, by omega⟩
    obtain rfl : i = N := by omega
    exact cd_no (by rw [hN.end]; decide) h2
  | succ k ih =>
    intro i c f f' h1 h2 h3 h4 h5 h6
    obtain ⟨f, rfl⟩ : ∃ z, f = z + 1 := ⟨f - 1, by omega⟩
    obtain ⟨f', rfl⟩ : ∃ z, f' = z + 1 := ⟨f' - 1, by omega⟩
    by_cases t : tkc B n i = 20003
    · obtain ⟨l1, l2, l3⟩ := hN.lt h2 (by rw [t]; decide)
      have w3 : stq B n i + 2 ≤ stq B n (i + 1) := tk_wl hN.2.2.2.2 (a := 13) (by decide) t
      obtain ⟨ok, i1, Lc, Lm, hc, hm, hg⟩ := H (i + 1) (by omega) (by omega)
      have sn := stq_n (B := B) (n := n) i1
      have cls : ∀ S L, CP S B n N i L → 2 * L.length + 0 ≤ stq B n i → ∃ U L1, lp_R_readCond_8 (iN d) rc (f + 1) S 1 (iN c) = lp_R_readCond_8 (iN d) rc f U (bI ok) (iN (c + 1)) ∧ Fc PcL S U ∧ CP U B n N i1 L1 ∧ (ok = true → L1 = L ++ (Lc ++ [(5, 0, 0)])) := by
        intro S L hS hL
        obtain ⟨U1, a1, a2, a3⟩ := pR_advance hS l1
        obtain ⟨U2, L2, b1, b2, b3, b4⟩ := hc U1 L a3 (by omega)
        obtain ⟨U3, L3, c1, c2, c3, c4⟩ := pA_addStepX b3 5 0 0
        have b1 : f_R_readAll rc U1 (iN d) = some (bI ok, U2) := b1
        refine ⟨U3, L3, ?_, ((a2.mono pcA).trans b2).trans c2, c3, fun z => ?_⟩
        · rw [lp_R_readCond_8, if_neg (le_n (a := 200) rfl (iN_i (by omega)) (by omega)), if_neg (show ¬ (1 : Int32) = 0 by decide), hS.2.2.2.2.1, if_pos t, a1, bd_s, b1, bd_s, c1, bd_s, iN_1]
        · have g := (hg z).1
          have e := b4 z
          rw [c4 (by rw [e, List.length_append]; omega), e, List.append_assoc]
      have mdl : ∀ S C, MP S B n i 0 C → gI S 191 10 = iN d → C.length + 3 ≤ stq B n i → ∃ U C1, lp_M_condition_4 oc (f' + 1) S = lp_M_condition_4 oc f' U ∧ Fc PmD S U ∧ gI U 191 10 = iN d ∧ MP U B n i1 (bif ok then 0 else 1) C1 ∧ (ok = true → C1 = C ++ (Lm ++ [20000])) := by
        intro S C hS hd hl
        obtain ⟨U1, a1, a2, a3⟩ := pM_mustT hS (b := 1) (by decide)
        obtain ⟨U2, C2, b1, b2, b3, b4, b5⟩ := hm U1 C a3 ((a2.1 191 10 (nPl (by omega))).trans hd) (by omega)
        have st : ∃ U3 C3, f_M_tells U2 20000 = some (0, U3) ∧ Fc PmL U2 U3 ∧ MP U3 B n i1 (bif ok then 0 else 1) C3 ∧ (ok = true → C3 = C ++ (Lm ++ [20000])) := by
          cases ok with
          | true =>
            have e := b5 rfl
            have g := (hg rfl).2.1
            obtain ⟨U3, c1, c2, c3⟩ := pM_tells0 b4 (by rw [e, List.length_append]; omega) 20000
            exact ⟨U3, _, c1, c2, c3, fun _ => by rw [e, List.append_assoc]⟩
          | false => exact ⟨U2, C2, pM_tells1 b4 _, Fc.rfl', b4, fun z => by cases z⟩
        obtain ⟨U3, C3, c1, c2, c3, c4⟩ := st
        refine ⟨U3, C3, ?_, ((a2.mono pmD).trans b2).trans (c2.mono pmD), (c2.1 191 10 (nPl (by omega))).trans b3, c3, c4⟩
        rw [lp_M_condition_4, hS.2.2.2.1, if_pos (show iN 0 = (0 : Int32) from rfl), pM_isWord hS.1 hS.2.1 (a := 13) (by omega) hS.2.2.1, bd_s, decide_eq_true (show tkc B n i = wdC 13 from t), if_neg (by decide), a1, bd_s, b1, bd_s, c1, bd_s]
      cases ok with
      | false =>
        obtain ⟨f, rfl⟩ : ∃ z, f = z + 1 := ⟨f - 1, by omega⟩
        obtain ⟨f', rfl⟩ : ∃ z, f' = z + 1 := ⟨f' - 1, by omega⟩
        refine ⟨false, i1, [], [], fun S L hS hL => ?_, fun S C hS hd hl => ?_, fun z => by cases z⟩
        · obtain ⟨U, L1, a1, a2, a3, a4⟩ := cls S L hS hL
          exact ⟨U, L1, a1.trans cd_0, a2, a3, fun z => by cases z⟩
        · obtain ⟨U, C1, a1, a2, a3, a4, a5⟩ := mdl S C hS hd hl
          exact ⟨U, C1, a1.trans (cd4_1 a4), a2, a3, a4, fun z => by cases z⟩
      | true =>
        obtain ⟨g1, g2, g3, g4, v1, g5, g6, g7⟩ := hg rfl
        obtain ⟨ok2, i2, Lc2, Lm2, hc2, hm2, hg2⟩ := ih i1 (c + 1) f f' (by omega) (by omega) (by omega) (by omega) (by omega) (by omega)
        refine ⟨ok2, i2, Lc ++ [(5, 0, 0)] ++ Lc2, Lm ++ [20000] ++ Lm2, fun S L hS hL => ?_, fun S C hS hd hl => ?_, fun z => ?_⟩
        · obtain ⟨U, L1, a1, a2, a3, a4⟩ := cls S L hS hL
          have e := a4 rfl
          have le : L1.length = L.length + (Lc.length + 1) := by rw [e, List.length_append, List.length_append]; rfl
          obtain ⟨V, L2, b1, b2, b3, b4⟩ := hc2 U L1 a3 (by omega)
          exact ⟨V, L2, a1.trans b1, a2.trans b2, b3, fun z => by rw [b4 z, e, List.append_assoc]⟩
        · obtain ⟨U, C1, a1, a2, a3, a4, a5⟩ := mdl S C hS hd hl
          have e := a5 rfl
          have le : C1.length = C.length + (Lm.length + 1) := by rw [e, List.length_append, List.length_append]; rfl
          obtain ⟨V, C2, b1, b2, b3, b4, b5⟩ := hm2 U C1 a4 a3 (by omega)
          exact ⟨V, C2, a1.trans b1, a2.trans b2, b3, b4, fun z => by rw [b5 z, e, List.append_assoc]⟩
        · obtain ⟨k1, k2, k3, k4, k5⟩ := hg2 z
          have l1 : (Lc ++ [(5, 0, 0)] ++ Lc2).length = Lc.length + 1 + Lc2.length := by rw [List.length_append, List.length_append]; rfl
          have l2 : (Lm ++ [20000] ++ Lm2).length = Lm.length + 1 + Lm2.length := by rw [List.length_append, List.length_append]; rfl
          refine ⟨by rw [l1]; omega, by rw [l2]; omega, by omega, k4, fun Lc0 Lm0 v0 p1 p2 p3 => ?_⟩
          have := k5 (Lc0 ++ Lc ++ [(5, 0, 0)]) (Lm0 ++ Lm ++ [20000]) _ (p1.or g5 (Nat.le_refl _) (Nat.le_refl _) hb2 (by omega)) (PushM.two (by decide) (by decide) (fun S x y => did_o x y) p2 g6 (Nat.le_refl _) (Nat.le_refl _) (by omega)) (p3.or g7)
          simpa only [List.append_assoc] using this
    · exact cd_no t h2
theorem rd_cond {d b q i : Nat} {rc : hs → Int32 → Option (Int32 × hs)} {oc : hs → Option (Int32 × hs)} (hN : TN B n N) (hq : 1 ≤ q) (hb : 1 ≤ b) (hb2 : b + 1 ≤ 64) (hi : i ≤ N) (H : ∀ j, j ≤ N → stq B n i ≤ stq B n j → RdG B n N d j 0 (fun S => f_R_readAll rc S (iN d)) (f_M_all oc) (GvO (b + 1) q)) : RdG B n N d i 0 (fun S => f_R_readCond rc S (iN d)) (f_M_condition oc) (GvO b (q + 1)) := by
  have hn := hN.1
  have hNn := hN.2.1
  obtain ⟨ok, i1, Lc, Lm, hc, hm, hg⟩ := H i hi (Nat.le_refl _)
  cases ok with
  | false =>
    refine ⟨false, i1, [], [], fun S L hS hL => ?_, fun S C hS hd hl => ?_, fun z => by cases z⟩
    · obtain ⟨U, L1, a1, a2, a3, a4⟩ := hc S L hS hL
      have a1 : f_R_readAll rc S (iN d) = some (0, U) := a1
      exact ⟨U, L1, (bd_of a1).trans cd_0, a2, a3, fun z => by cases z⟩
    · obtain ⟨U, C1, a1, a2, a3, a4, a5⟩ := hm S C hS hd hl
      exact ⟨U, C1, (bd_of a1).trans (cd4_1 a4), a2, a3, a4, fun z => by cases z⟩
  | true =>
    obtain ⟨g1, g2, g3, g4, v1, g5, g6, g7⟩ := hg rfl
    obtain ⟨ok2, i2, Lc2, Lm2, hc2, hm2, hg2⟩ := cd_l (s0 := stq B n i) hN hq hb hb2 H (N - i1) i1 0 1000 1000 (Nat.le_refl _) g4 (by omega) (Nat.zero_le _) (by omega) (by omega)
    refine ⟨ok2, i2, Lc ++ Lc2, Lm ++ Lm2, fun S L hS hL => ?_, fun S C hS hd hl => ?_, fun z => ?_⟩
    · obtain ⟨U, L1, a1, a2, a3, a4⟩ := hc S L hS hL
      have a1 : f_R_readAll rc S (iN d) = some (1, U) := a1
      have e := a4 rfl
      have le : L1.length = L.length + Lc.length := by rw [e, List.length_append]
      obtain ⟨V, L2, b1, b2, b3, b4⟩ := hc2 U L1 a3 (by omega)
      exact ⟨V, L2, (bd_of a1).trans b1, a2.trans b2, b3, fun z => by rw [b4 z, e, List.append_assoc]⟩
    · obtain ⟨U, C1, a1, a2, a3, a4, a5⟩ := hm S C hS hd hl
      have e := a5 rfl
      have le : C1.length = C.length + Lm.length := by rw [e, List.length_append]
      obtain ⟨V, C2, b1, b2, b3, b4, b5⟩ := hm2 U C1 a4 a3 (by omega)
      exact ⟨V, C2, (bd_of a1).trans b1, a2.trans b2, b3, b4, fun z => by rw [b5 z, e, List.append_assoc]⟩
    · obtain ⟨k1, k2, k3, k4, k5⟩ := hg2 z
      have l1 : (Lc ++ Lc2).length = Lc.length + Lc2.length := List.length_append
      have l2 : (Lm ++ Lm2).length = Lm.length + Lm2.length := List.length_append
      exact ⟨by rw [l1]; omega, by rw [l2]; omega, by omega, k4, k5 _ _ v1 (g5.mono (by omega)) (g6.mono (by omega)) g7⟩
end
