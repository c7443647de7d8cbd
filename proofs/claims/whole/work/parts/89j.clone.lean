/-! One clause, read by both: how it ends. -/
section
variable {B : Nat → Nat} {n N : Nat} {S T : hs}
theorem mCd_1 {j : Nat} {C : List Int32} (h : MP S B n j 1 C) (K : hs → Int32 → Option (Int32 × hs)) (x : Int32) : ∃ U, mCd K x S = K U x ∧ Fc PmL S U ∧ MP U B n j 1 C := by
  obtain ⟨U, a1, a2, a3, a4⟩ := tailM (X := fun S'' => K S'' x) h (Nat.le_refl _)
  refine ⟨U, ?_, a2, a4 (fun z => by omega)⟩
  unfold mCd
  rw [h.2.2.2.1, if_neg (by decide)]
  exact a1
theorem mCd_e {j : Nat} {C : List Int32} (h : MP S B n j 0 C) (t : ¬ tkc B n j = 20002) (K : hs → Int32 → Option (Int32 × hs)) (x : Int32) : ∃ U, mCd K x S = K U x ∧ Fc PmL S U ∧ (tkc B n j = 20159 → MP U B n (j + 1) 0 C) ∧ (¬ tkc B n j = 20159 → MP U B n j 1 C) := by
  obtain ⟨U, a1, a2, a3, a4⟩ := tailM (X := fun S'' => K S'' x) h (Nat.zero_le _)
  refine ⟨U, ?_, a2, fun z => a3 ⟨rfl, z⟩, fun z => a4 (fun y => z y.2)⟩
  unfold mCd
  rw [h.2.2.2.1, if_pos (show iN 0 = (0 : Int32) from rfl), pM_isWord h.1 h.2.1 (a := 12) (by omega) h.2.2.1, bd_s, decide_eq_false (show ¬ tkc B n j = wdC 12 from t), if_pos (by decide)]
  exact a1
theorem mCd_i {j i1 : Nat} {C Lm : List Int32} {ok : Bool} (h : MP S B n j 0 C) (t : tkc B n j = 20002) (hd : gI S 191 10 = iN 0) (hl : C.length + 3 ≤ stq B n (j + 1)) (hm : RdM B n 0 (j + 1) (f_M_condition (fx_oc 80)) ok i1 Lm) (K : hs → Int32 → Option (Int32 × hs)) (x : Int32) : ∃ U C', mCd K x S = K U x ∧ Fc PmD S U ∧ gI U 191 10 = iN 0 ∧ (ok = true ∧ tkc B n i1 = 20159 → MP U B n (i1 + 1) 0 C' ∧ C' = C ++ Lm) ∧ (¬ (ok = true ∧ tkc B n i1 = 20159) → MP U B n i1 1 C') := by
  obtain ⟨U1, a1, a2, a3⟩ := pM_mustT h (b := 1) (by decide)
  obtain ⟨U2, C2, b1, b2, b3, b4, b5⟩ := hm U1 C a3 ((a2.1 191 10 (nPl (by omega))).trans hd) hl
  obtain ⟨U, c1, c2, c3, c4⟩ := tailM (X := fun S'' => K S'' x) b4 (by cases ok <;> decide)
  refine ⟨U, C2, ?_, ((a2.mono pmD).trans b2).trans (c2.mono pmD), (c2.1 191 10 (nPl (by omega))).trans b3, fun z => ⟨c3 ⟨by rw [z.1]; rfl, z.2⟩, b5 z.1⟩, fun z => c4 (fun y => z ⟨by cases ok with
    | true => rfl
    | false => exact absurd y.1 (by decide), y.2⟩)⟩
  unfold mCd
  rw [h.2.2.2.1, if_pos (show iN 0 = (0 : Int32) from rfl), pM_isWord h.1 h.2.1 (a := 12) (by omega) h.2.2.1, bd_s, decide_eq_true (show tkc B n j = wdC 12 from t), if_neg (by decide), a1, bd_s, b1, bd_s]
  exact c1
theorem cl_one (hN : TN B n N) {i cc : Nat} (hi : i < N) (hcc : cc ≤ 8) {L : List (Int32 × Int32 × Int32)} {C : List Int32} (hL : 2 * L.length ≤ stq B n i) (hC : C.length ≤ stq B n i) :
    ∃ (ok : Bool) (i' kd : Nat) (Lc : List (Int32 × Int32 × Int32)) (Lm : List Int32) (v : (Nat → Int32) → Bool),
      (ok = true → cc < 8 ∧ kd ≤ 5 ∧ i < i' ∧ i' ≤ N ∧ 2 * (L ++ Lc).length ≤ stq B n i' ∧ (C ++ Lm).length ≤ stq B n i' ∧ PiC v Lc ∧ PiM v Lm ∧ Dep6 v) ∧
      (∀ S, CP S B n N i L → gI S 129 5 = iN cc → ∃ U L', f_R_readClause S = some (bI ok, U) ∧ Fc PcT S U ∧ CP U B n N i' L' ∧ (ok = true → L' = L ++ Lc ∧ gI U 129 5 = iN (cc + 1) ∧ gI U 130 cc = iN kd ∧ gI U 131 cc = iN (L ++ Lc).length ∧ ∀ k, k ≠ cc → gI U 130 k = gI S 130 k ∧ gI U 131 k = gI S 131 k)) ∧
      (∀ S f K0, MP S B n i 0 C → gI S 191 10 = iN 0 → ∃ U C' x, lp_M_law_26 K0 (f + 1) S (iN cc) = lp_M_law_26 K0 f U x ∧ Fc PmX S U ∧ MP U B n i' (bif ok then 0 else 1) C' ∧ (ok = true → x = iN (cc + 1) ∧ gI U 191 10 = iN 0 ∧ C' = C ++ Lm ∧ gI U 198 cc = iN C.length ∧ gI U 199 cc = iN kd ∧ ∀ k, k ≠ cc → gI U 198 k = gI S 198 k ∧ gI U 199 k = gI S 199 k)) := by
  have hn := hN.1
  have hB := hN.2.2.2.2
  obtain ⟨t0, t0k, t0l⟩ := tk_n0 hB (hN.2.2.2.1 i hi)
  obtain ⟨-, -, s1⟩ := hN.lt (Nat.le_of_lt hi) t0
  have me : ∀ S C (f : Nat) (K0 : hs → Int32 → Option (Int32 × hs)), MP S B n i 0 C → lp_M_law_26 K0 (f + 1) S (iN cc) = (if (8 : Int32) ≤ iN cc then bd (f_M_must S (0 : Int32)) fun _ S17 => mBd (lp_M_law_26 K0 f) (iN cc) (kdW (tkc B n i)) S17 else if kdW (tkc B n i) < 0 then bd (f_M_must S (0 : Int32)) fun _ S82 => mBd (lp_M_law_26 K0 f) (iN cc) (kdW (tkc B n i)) S82 else bd (f_M_must S (1 : Int32)) fun _ S146 => mBd (lp_M_law_26 K0 f) (iN cc) (kdW (tkc B n i)) S146) := fun S C f K0 hS => by
    rw [l26_e, hS.2.2.2.1, if_pos (show iN 0 = (0 : Int32) from rfl), hS.2.2.1.2.2, if_neg (ne0 (by omega) t0k)]
    exact l44_l hS 6 0 1000 (-1) (by omega) (by omega)
  by_cases hk : (∃ a, a < 6 ∧ tkc B n i = wdC a) ∧ cc < 8
  · obtain ⟨⟨a, ha, ta⟩, c8⟩ := hk
    obtain ⟨w1, w2, w3, w4, w5, w6, w7⟩ := kdW_y a ha
    have l2 := tk_wl hB (a := a) (by omega) ta
    have mp : ∀ S f K0, MP S B n i 0 C → gI S 191 10 = iN 0 → ∃ V, lp_M_law_26 K0 (f + 1) S (iN cc) = mCd (lp_M_law_26 K0 f) (iN (cc + 1)) V ∧ Fc PmX S V ∧ MP V B n (i + 1) 0 C ∧ gI V 191 10 = iN 0 ∧ gI V 198 cc = iN C.length ∧ gI V 199 cc = iN a ∧ ∀ k, k ≠ cc → gI V 198 k = gI S 198 k ∧ gI V 199 k = gI S 199 k := by
      intro S f K0 hS hd
      obtain ⟨U, a1, a2, a3⟩ := pM_mustT hS (b := 1) (by decide)
      have f1 : Fc (fun a i => a = 198 ∨ a = 199) U (uI (uI U 198 cc (iN C.length)) 199 cc (iN a)) := (Fc.rfl'.uI (Or.inl rfl)).uI (Or.inr rfl)
      refine ⟨uI (uI U 198 cc (iN C.length)) 199 cc (iN a), ?_, (a2.mono pmX').trans (f1.mono (fun a i z => Or.inr z)), a3.fc f1 (fun a i q => by omega), ?_, ?_, gI_us, fun k hk => ⟨?_, ?_⟩⟩
      · rw [me S C f K0 hS, if_neg (le_n (a := 8) rfl (iN_i (by omega)) (by omega)), ta, w1, if_neg (l0 (by omega)), a1, bd_s]
        unfold mBd
        rw [a3.2.2.2.1, if_pos (show iN 0 = (0 : Int32) from rfl), ck_of (iN_b (by omega) (by decide)), ck_of (iN_b (by omega) (by decide)), iN_c (by omega), a3.2.2.2.2.1, iN_1]
      · rw [gI_ua (by decide), gI_ua (by decide)]; exact (a2.1 191 10 (nPl (by omega))).trans hd
      · rw [gI_ua (by decide), gI_us]
      · rw [gI_ua (by decide), gI_un hk]; exact a2.1 198 k (nPl (by omega))
      · rw [gI_un hk, gI_ua (by decide)]; exact a2.1 199 k (nPl (by omega))
    have cp : ∀ S, CP S B n N i L → gI S 129 5 = iN cc → ∃ V, f_R_readClause S = cTl (iN a) V ∧ Fc PcL S V ∧ CP V B n N (i + 1) L ∧ gI V 129 5 = iN cc := by
      intro S hS hc
      obtain ⟨V, a1, a2, a3⟩ := pR_advance hS hi
      refine ⟨V, ?_, a2.mono pcA, a3, (a2.1 129 5 (nPcA (by omega))).trans hc⟩
      rw [rcl_e, hS.2.2.2.2.1, ta, if_neg w3, if_neg w4, hc, if_pos (lt_y (b := 8) (iN_i (by omega)) rfl (by omega)), a1, bd_s, w5]
    by_cases t1 : tkc B n (i + 1) = 20002
    · obtain ⟨m1, m2, m3⟩ := hN.lt (i := i + 1) (by omega) (by rw [t1]; decide)
      have l3 : stq B n (i + 1) + 2 ≤ stq B n (i + 2) := tk_wl hB (a := 12) (by decide) t1
      obtain ⟨ok, i1, Lc, Lm, hc, hm, hg⟩ := rd_top hN (i := i + 2) (by omega)
      have cs : ∀ S, CP S B n N i L → gI S 129 5 = iN cc → ∃ V L1, f_R_readClause S = (if bI ok = 0 then some ((0 : Int32), V) else cEn (iN a) V) ∧ Fc PcL S V ∧ CP V B n N i1 L1 ∧ gI V 129 5 = iN cc ∧ (ok = true → L1 = L ++ Lc) := by
        intro S hS h5
        obtain ⟨V, a1, a2, a3, a4⟩ := cp S hS h5
        obtain ⟨W, b1, b2, b3⟩ := pR_advance a3 m1
        obtain ⟨X, L1, c1, c2, c3, c4⟩ := hc W L b3 (by omega)
        have c1 : f_R_readCond (fx_rc 5) W (0 : Int32) = some (bI ok, X) := c1
        refine ⟨X, L1, ?_, (a2.trans (b2.mono pcA)).trans c2, c3, ?_, c4⟩
        · rw [a1]
          unfold cTl
          rw [a3.2.2.2.2.1, if_pos t1, b1, bd_s, c1, bd_s]
        · rw [c2.1 129 5 (nPcL (by omega)), b2.1 129 5 (nPcA (by omega))]; exact a4
      have ms : ∀ S f K0, MP S B n i 0 C → gI S 191 10 = iN 0 → ∃ U C', lp_M_law_26 K0 (f + 1) S (iN cc) = lp_M_law_26 K0 f U (iN (cc + 1)) ∧ Fc PmX S U ∧ gI U 191 10 = iN 0 ∧ (ok = true ∧ tkc B n i1 = 20159 → MP U B n (i1 + 1) 0 C' ∧ C' = C ++ Lm) ∧ (¬ (ok = true ∧ tkc B n i1 = 20159) → MP U B n i1 1 C') ∧ gI U 198 cc = iN C.length ∧ gI U 199 cc = iN a ∧ ∀ k, k ≠ cc → gI U 198 k = gI S 198 k ∧ gI U 199 k = gI S 199 k := by
        intro S f K0 hS hd
        obtain ⟨V, a1, a2, a3, a4, a5, a6, a7⟩ := mp S f K0 hS hd
        obtain ⟨U, C', b1, b2, b3, b4, b5⟩ := mCd_i a3 t1 a4 (by omega) hm (lp_M_law_26 K0 f) (iN (cc + 1))
        refine ⟨U, C', a1.trans b1, a2.trans (b2.mono pmX), b3, b4, b5, (b2.1 198 cc (nPd (by omega))).trans a5, (b2.1 199 cc (nPd (by omega))).trans a6, fun k hk => ⟨(b2.1 198 k (nPd (by omega))).trans (a7 k hk).1, (b2.1 199 k (nPd (by omega))).trans (a7 k hk).2⟩⟩
      by_cases z : ok = true ∧ tkc B n i1 = 20159
      · obtain ⟨rfl, t2⟩ := z
        obtain ⟨g1, g2, g3, g4, v, g5, g6, g7⟩ := hg rfl
        obtain ⟨k1, k2, k3⟩ := hN.lt g4 (by rw [t2]; decide)
        refine ⟨true, i1 + 1, a, Lc, Lm, v, fun _ => ⟨c8, by omega, by omega, by omega, by rw [List.length_append]; omega, by rw [List.length_append]; omega, Or.inr g5, Or.inr g6, g7⟩, fun S hS h5 => ?_, fun S f K0 hS hd => ?_⟩
        · obtain ⟨V, L1, a1, a2, a3, a4, a5⟩ := cs S hS h5
          obtain ⟨U, b1, b2, b3, b4⟩ := tailC hN a3 a4 c8 (iN a)
          obtain ⟨d1, d2, d3, d4, d5⟩ := b3 t2
          have e := a5 rfl
          refine ⟨U, L1, ?_, (a2.mono pcT).trans b2, d1, fun _ => ⟨e, d2, d3, by rw [d4, e], fun k hk => ?_⟩⟩
          · rw [a1, if_neg (by decide), b1, decide_eq_true t2]
          · rw [(d5 k hk).1, (d5 k hk).2, a2.1 130 k (nPcL (by omega)), a2.1 131 k (nPcL (by omega))]
            exact ⟨rfl, rfl⟩
        · obtain ⟨U, C', a1, a2, a3, a4, a5, a6, a7, a8⟩ := ms S f K0 hS hd
          exact ⟨U, C', _, a1, a2, (a4 ⟨rfl, t2⟩).1, fun _ => ⟨rfl, a3, (a4 ⟨rfl, t2⟩).2, a6, a7, a8⟩⟩
      · refine ⟨false, i1, 0, [], [], fun _ => true, (fun z => by cases z), fun S hS h5 => ?_, fun S f K0 hS hd => ?_⟩
        · obtain ⟨V, L1, a1, a2, a3, a4, a5⟩ := cs S hS h5
          cases ok with
          | false => exact ⟨V, L1, a1.trans (if_pos rfl), a2.mono pcT, a3, fun z => by cases z⟩
          | true =>
            obtain ⟨U, b1, b2, b3, b4⟩ := tailC hN a3 a4 c8 (iN a)
            have nt : ¬ tkc B n i1 = 20159 := fun y => z ⟨rfl, y⟩
            refine ⟨U, L1, ?_, (a2.mono pcT).trans b2, b4 nt, fun z => by cases z⟩
            rw [a1, if_neg (by decide), b1, decide_eq_false nt]
        · obtain ⟨U, C', a1, a2, a3, a4, a5, a6, a7, a8⟩ := ms S f K0 hS hd
          exact ⟨U, C', _, a1, a2, a5 z, fun z => by cases z⟩
    · have cs : ∀ S, CP S B n N i L → gI S 129 5 = iN cc → ∃ V, f_R_readClause S = cEn (iN a) V ∧ Fc PcL S V ∧ CP V B n N (i + 1) L ∧ gI V 129 5 = iN cc := by
        intro S hS h5
        obtain ⟨V, a1, a2, a3, a4⟩ := cp S hS h5
        refine ⟨V, ?_, a2, a3, a4⟩
        rw [a1]
        unfold cTl
        rw [a3.2.2.2.2.1, if_neg t1]
      have ms : ∀ S f K0, MP S B n i 0 C → gI S 191 10 = iN 0 → ∃ U, lp_M_law_26 K0 (f + 1) S (iN cc) = lp_M_law_26 K0 f U (iN (cc + 1)) ∧ Fc PmX S U ∧ gI U 191 10 = iN 0 ∧ (tkc B n (i + 1) = 20159 → MP U B n (i + 2) 0 C) ∧ (¬ tkc B n (i + 1) = 20159 → MP U B n (i + 1) 1 C) ∧ gI U 198 cc = iN C.length ∧ gI U 199 cc = iN a ∧ ∀ k, k ≠ cc → gI U 198 k = gI S 198 k ∧ gI U 199 k = gI S 199 k := by
        intro S f K0 hS hd
        obtain ⟨V, a1, a2, a3, a4, a5, a6, a7⟩ := mp S f K0 hS hd
        obtain ⟨U, b1, b2, b4, b5⟩ := mCd_e a3 t1 (lp_M_law_26 K0 f) (iN (cc + 1))
        refine ⟨U, a1.trans b1, a2.trans (b2.mono pmX'), (b2.1 191 10 (nPl (by omega))).trans a4, b4, b5, (b2.1 198 cc (nPl (by omega))).trans a5, (b2.1 199 cc (nPl (by omega))).trans a6, fun k hk => ⟨(b2.1 198 k (nPl (by omega))).trans (a7 k hk).1, (b2.1 199 k (nPl (by omega))).trans (a7 k hk).2⟩⟩
      by_cases t2 : tkc B n (i + 1) = 20159
      · obtain ⟨k1, k2, k3⟩ := hN.lt (i := i + 1) (by omega) (by rw [t2]; decide)
        have k3 : stq B n (i + 1) + 1 ≤ stq B n (i + 2) := k3
        refine ⟨true, i + 2, a, [], [], fun _ => true, fun _ => ⟨c8, by omega, by omega, by omega, by rw [List.append_nil]; omega, by rw [List.append_nil]; omega, Or.inl ⟨rfl, rfl⟩, Or.inl ⟨rfl, rfl⟩, fun _ _ _ => rfl⟩, fun S hS h5 => ?_, fun S f K0 hS hd => ?_⟩
        · obtain ⟨V, a1, a2, a3, a4⟩ := cs S hS h5
          obtain ⟨U, b1, b2, b3, b4⟩ := tailC hN a3 a4 c8 (iN a)
          obtain ⟨d1, d2, d3, d4, d5⟩ := b3 t2
          refine ⟨U, L, ?_, (a2.mono pcT).trans b2, d1, fun _ => ⟨(List.append_nil L).symm, d2, d3, by rw [d4, List.append_nil], fun k hk => ?_⟩⟩
          · rw [a1, b1, decide_eq_true t2]
          · rw [(d5 k hk).1, (d5 k hk).2, a2.1 130 k (nPcL (by omega)), a2.1 131 k (nPcL (by omega))]
            exact ⟨rfl, rfl⟩
        · obtain ⟨U, a1, a2, a3, a4, a5, a6, a7, a8⟩ := ms S f K0 hS hd
          exact ⟨U, C, _, a1, a2, a4 t2, fun _ => ⟨rfl, a3, (List.append_nil C).symm, a6, a7, a8⟩⟩
      · refine ⟨false, i + 1, 0, [], [], fun _ => true, (fun z => by cases z), fun S hS h5 => ?_, fun S f K0 hS hd => ?_⟩
        · obtain ⟨V, a1, a2, a3, a4⟩ := cs S hS h5
          obtain ⟨U, b1, b2, b3, b4⟩ := tailC hN a3 a4 c8 (iN a)
          refine ⟨U, L, ?_, (a2.mono pcT).trans b2, b4 t2, fun z => by cases z⟩
          rw [a1, b1, decide_eq_false t2]
        · obtain ⟨U, a1, a2, a3, a4, a5, a6, a7, a8⟩ := ms S f K0 hS hd
          exact ⟨U, C, _, a1, a2, a5 t2, fun z => by cases z⟩
  · refine ⟨false, i, 0, [], [], fun _ => true, (fun z => by cases z), fun S hS h5 => ⟨S, L, ?_, Fc.rfl', hS, fun z => by cases z⟩, fun S f K0 hS hd => ?_⟩
    · rw [rcl_e, hS.2.2.2.2.1, h5]
      by_cases q1 : tkc B n i < (20010 : Int32)
      · rw [if_pos q1]; rfl
      · rw [if_neg q1]
        by_cases q2 : (20015 : Int32) < tkc B n i
        · rw [if_pos q2]; rfl
        · rw [if_neg q2, if_neg (lt_n (b := 8) (iN_i (by omega)) rfl (by
            have : ¬ cc < 8 := fun y => hk ⟨kd_in q1 q2, y⟩
            omega))]; rfl
    · obtain ⟨U, a1, a2, a3⟩ := pM_mustF hS (by omega) (b := 0) (Or.inr rfl)
      obtain ⟨V, b1, b2, b3⟩ := mCd_1 a3 (lp_M_law_26 K0 f) (iN cc)
      have e : (bd (f_M_must S (0 : Int32)) fun _ S17 => mBd (lp_M_law_26 K0 f) (iN cc) (kdW (tkc B n i)) S17) = lp_M_law_26 K0 f V (iN cc) := by
        rw [a1, bd_s]
        unfold mBd
        rw [a3.2.2.2.1, if_neg (by decide)]
        exact b1
      refine ⟨V, C, iN cc, ?_, (a2.mono pmX').trans (b2.mono pmX'), b3, fun z => by cases z⟩
      rw [me S C f K0 hS]
      by_cases c8 : cc < 8
      · rw [if_neg (le_n (a := 8) rfl (iN_i (by omega)) (by omega)), kdW_n (fun a ha y => hk ⟨⟨a, ha, y⟩, c8⟩), if_pos (by decide)]
        rw [kdW_n (fun a ha y => hk ⟨⟨a, ha, y⟩, c8⟩)] at e
        exact e
      · rw [if_pos (le_y (a := 8) rfl (iN_i (by omega)) (by omega))]
        exact e
end
