/-! One clause, read by both. -/
def PcT (a i : Nat) : Prop := PcL a i ∨ (a = 129 ∧ i = 5) ∨ a = 130 ∨ a = 131
def PmX (a i : Nat) : Prop := PmD a i ∨ a = 198 ∨ a = 199
theorem pcT : ∀ a i, PcL a i → PcT a i := fun _ _ z => Or.inl z
theorem pmX : ∀ a i, PmD a i → PmX a i := fun _ _ z => Or.inl z
theorem pmX' : ∀ a i, PmL a i → PmX a i := fun _ _ z => Or.inl (Or.inl z)
theorem nPcL {a i : Nat} (h : ¬ (a = 128 ∧ (i = 6 ∨ i = 7)) ∧ a ≠ 132 ∧ a ≠ 133 ∧ a ≠ 134 ∧ ¬ (a = 129 ∧ i = 6)) : ¬ PcL a i := fun z => by unfold PcL PcA PcS at z; omega
def mCd (K : hs → Int32 → Option (Int32 × hs)) (x' : Int32) (S : hs) : Option (Int32 × hs) := (if gI S 191 9 = 0 then bd (f_M_isWord S 12) fun r58 S59 => (if r58 = 0 then bd (f_M_isSign S59 (59 : Int32)) fun r62 S63 => bd (f_M_must S63 r62) fun _ S66 => K S66 x' else bd (f_M_must S59 (1 : Int32)) fun _ S69 => bd (f_M_condition (fx_oc 80) S69) fun _ S72 => bd (f_M_isSign S72 (59 : Int32)) fun r74 S75 => bd (f_M_must S75 r74) fun _ S78 => K S78 x') else bd (f_M_isSign S (59 : Int32)) fun r52 S53 => bd (f_M_must S53 r52) fun _ S56 => K S56 x')
def mBd (K : hs → Int32 → Option (Int32 × hs)) (x1 y13 : Int32) (S17 : hs) : Option (Int32 × hs) := (if gI S17 191 9 = 0 then ck (inb x1 9) (ck (inb x1 8) (mCd K (x1 + (1 : Int32)) (uI (uI S17 198 (x1).toNatClampNeg (gI S17 191 12)) 199 (x1).toNatClampNeg y13))) else mCd K x1 S17)
theorem l26_e (K0 : hs → Int32 → Option (Int32 × hs)) (n : Nat) (S : hs) (x1 : Int32) : lp_M_law_26 K0 (n + 1) S x1 = (if gI S 191 9 = 0 then (if gI S 191 8 = 0 then K0 S x1 else lp_M_law_44 x1 (fun S12 y13 _ => if (8 : Int32) ≤ x1 then bd (f_M_must S12 (0 : Int32)) fun _ S17 => mBd (lp_M_law_26 K0 n) x1 y13 S17 else if y13 < 0 then bd (f_M_must S12 (0 : Int32)) fun _ S82 => mBd (lp_M_law_26 K0 n) x1 y13 S82 else bd (f_M_must S12 (1 : Int32)) fun _ S146 => mBd (lp_M_law_26 K0 n) x1 y13 S146) 1000 S (-1 : Int32) (0 : Int32)) else K0 S x1) := rfl
def cEn (x : Int32) (S : hs) : Option (Int32 × hs) := if (gI S 128 7) = (20159 : Int32) then bd (f_R_advance S) fun _ S24 => bd (f_A_addClause_129 S24 x) fun _ S27 => some ((1 : Int32), S27) else some ((0 : Int32), S)
def cTl (x : Int32) (S5 : hs) : Option (Int32 × hs) := if (gI S5 128 7) = (20002 : Int32) then bd (f_R_advance S5) fun _ S16 => bd (f_R_readCond (fx_rc 5) S16 (0 : Int32)) fun r18 S19 => (if r18 = 0 then some ((0 : Int32), S19) else cEn x S19) else cEn x S5
theorem rcl_e (S : hs) : f_R_readClause S = (if (gI S 128 7) < (20010 : Int32) then some ((0 : Int32), S) else (if (20015 : Int32) < (gI S 128 7) then some ((0 : Int32), S) else (if (gI S 129 5) < (8 : Int32) then bd (f_R_advance S) fun _ S5 => cTl ((gI S 128 7) - (20010 : Int32)) S5 else some ((0 : Int32), S)))) := rfl
def kdW (t : Int32) : Int32 := fo (fun a x => if t = wdC a then iN a else x) 6 0 (-1)
theorem kdW_y : ∀ a, a < 6 → kdW (wdC a) = iN a ∧ wdC a = iN (20010 + a) ∧ ¬ wdC a < (20010 : Int32) ∧ ¬ (20015 : Int32) < wdC a ∧ wdC a - (20010 : Int32) = iN a ∧ wdC a ≠ 20000 ∧ 2 ≤ tLen a := by decide +kernel
theorem kdW_n {t : Int32} (h : ∀ a, a < 6 → t ≠ wdC a) : kdW t = -1 := by
  unfold kdW
  have e : ∀ (r i : Nat) (x : Int32), i + r = 6 → fo (fun a x => if t = wdC a then iN a else x) r i x = x := by
    intro r
    induction r with
    | zero => intro i x _; rfl
    | succ r ih =>
      intro i x hi
      show fo _ r (i + 1) (if t = wdC i then iN i else x) = x
      rw [if_neg (h i (by omega))]
      exact ih (i + 1) x (by omega)
  exact e 6 0 (-1) rfl
theorem kd_in {t : Int32} (h1 : ¬ t < (20010 : Int32)) (h2 : ¬ (20015 : Int32) < t) : ∃ a, a < 6 ∧ t = wdC a := by
  have k1 : 20010 ≤ t.toInt := by
    rcases Int.lt_or_le t.toInt 20010 with w | w
    · exact absurd (lt_y (x := t) (b := 20010) rfl rfl w) h1
    · exact w
  have k2 : t.toInt ≤ 20015 := by
    rcases Int.lt_or_le 20015 t.toInt with w | w
    · exact absurd (lt_y (a := 20015) (y := t) rfl rfl w) h2
    · exact w
  obtain ⟨x, rfl, hx, e⟩ := iN_of (show 0 ≤ t.toInt by omega)
  refine ⟨x - 20010, by omega, ?_⟩
  have e2 : 20010 + (x - 20010) = x := by omega
  rw [(kdW_y (x - 20010) (by omega)).2.1, e2]
def PiC (v : (Nat → Int32) → Bool) (Lc : List (Int32 × Int32 × Int32)) : Prop := (Lc = [] ∧ v = fun _ => true) ∨ PushC 56 Lc v
def PiM (v : (Nat → Int32) → Bool) (Lm : List Int32) : Prop := (Lm = [] ∧ v = fun _ => true) ∨ PushM 10 Lm v
section
variable {B : Nat → Nat} {n N : Nat} {S T : hs}
theorem CP.fc {P : Nat → Nat → Prop} {i : Nat} {L : List (Int32 × Int32 × Int32)} (h : CP S B n N i L) (f : Fc P S T) (q : ∀ a i, (a = 128 ∨ (a = 129 ∧ i = 6) ∨ (132 ≤ a ∧ a ≤ 137)) → ¬ P a i) : CP T B n N i L := by
  obtain ⟨h1, h2, h3, h4, h5, h6, h7, h8⟩ := h
  exact ⟨h1.fc f (q _ _ (by omega)) (fun _ => q _ _ (by omega)), h2.fc f ⟨q _ _ (by omega), fun _ => q _ _ (by omega), fun _ => q _ _ (by omega)⟩, h3, (f.1 _ _ (q _ _ (by omega))).trans h4, (f.1 _ _ (q _ _ (by omega))).trans h5, (f.1 _ _ (q _ _ (by omega))).trans h6, h7, fun j hj => ⟨(f.1 _ _ (q _ _ (by omega))).trans (h8 j hj).1, (f.1 _ _ (q _ _ (by omega))).trans (h8 j hj).2.1, (f.1 _ _ (q _ _ (by omega))).trans (h8 j hj).2.2⟩⟩
theorem MP.fc {P : Nat → Nat → Prop} {i er : Nat} {C : List Int32} (h : MP S B n i er C) (f : Fc P S T) (q : ∀ a i, ((a = 191 ∧ (i = 5 ∨ i = 6 ∨ i = 7 ∨ i = 8 ∨ i = 9 ∨ i = 12)) ∨ a = 194 ∨ a = 195 ∨ (16 ≤ a ∧ a < 32)) → ¬ P a i) : MP T B n i er C := by
  obtain ⟨h1, h2, h3, h4, h5, h6⟩ := h
  exact ⟨h1.fc f (q _ _ (by omega)) (fun _ => q _ _ (by omega)), h2.fc f (fun a i k1 k2 => q _ _ (by omega)), h3.fc f ⟨q _ _ (by omega), q _ _ (by omega), q _ _ (by omega)⟩, (f.1 _ _ (q _ _ (by omega))).trans h4, (f.1 _ _ (q _ _ (by omega))).trans h5, fun j hj => (f.1 _ _ (q _ _ (by omega))).trans (h6 j hj)⟩
theorem l44_l {i er : Nat} {C : List Int32} (h : MP S B n i er C) {K : hs → Int32 → Int32 → Option (Int32 × hs)} {x1 : Int32} : ∀ (r a f : Nat) (x : Int32), a + r = 6 → r < f → lp_M_law_44 x1 K f S x (iN a) = K S (fo (fun a x => if tkc B n i = wdC a then iN a else x) r a x) (iN 6) := by
  intro r
  induction r with
  | zero =>
    intro a f x ha hf
    obtain ⟨f, rfl⟩ : ∃ q, f = q + 1 := ⟨f - 1, by omega⟩
    obtain rfl : a = 6 := by omega
    rw [lp_M_law_44, if_pos (by decide)]; rfl
  | succ r ih =>
    intro a f x ha hf
    obtain ⟨f, rfl⟩ : ∃ q, f = q + 1 := ⟨f - 1, by omega⟩
    rw [lp_M_law_44, if_neg (le_n (a := 6) rfl (iN_i (by omega)) (by omega)), ck_of (iN_b (by omega) (by decide)), iN_c (by omega), pM_isWord h.1 h.2.1 (by omega) h.2.2.1, bd_s, if_bI, iN_1]
    show _ = K S (fo _ r (a + 1) (if tkc B n i = wdC a then iN a else x)) (iN 6)
    by_cases q : tkc B n i = wdC a
    · rw [decide_eq_true q, bt_t, if_pos q]; exact ih (a + 1) f _ (by omega) (by omega)
    · rw [decide_eq_false q, bt_f, if_neg q]; exact ih (a + 1) f _ (by omega) (by omega)
theorem sg_59 {i er : Nat} {C : List Int32} (h : MP S B n i er C) : f_M_isSign S (59 : Int32) = some (bI (decide (tkc B n i = 20159)), S) := pM_isSign h.1 (c := 59) (by omega) h.2.2.1
theorem tailM {j er : Nat} {C : List Int32} {X : hs → Option (Int32 × hs)} (h : MP S B n j er C) (he : er ≤ 1) : ∃ U, (bd (f_M_isSign S (59 : Int32)) fun r S' => bd (f_M_must S' r) fun _ S'' => X S'') = X U ∧ Fc PmL S U ∧ (er = 0 ∧ tkc B n j = 20159 → MP U B n (j + 1) 0 C) ∧ (¬ (er = 0 ∧ tkc B n j = 20159) → MP U B n j 1 C) := by
  by_cases q : er = 0 ∧ tkc B n j = 20159
  · obtain ⟨rfl, t⟩ := q
    obtain ⟨U, a1, a2, a3⟩ := pM_mustT h (b := bI true) (by decide)
    exact ⟨U, by rw [sg_59 h, bd_s, decide_eq_true t, a1, bd_s], a2, fun _ => a3, fun z => absurd ⟨rfl, t⟩ z⟩
  · obtain ⟨U, a1, a2, a3⟩ := pM_mustF h he (b := bI (decide (tkc B n j = 20159))) (by
      by_cases e : er = 1
      · exact Or.inl e
      · exact Or.inr (by rw [decide_eq_false (fun t => q ⟨by omega, t⟩)]; rfl))
    exact ⟨U, by rw [sg_59 h, bd_s, a1, bd_s], a2, fun z => absurd z q, fun _ => a3⟩
theorem pA_addClause {i cc : Nat} {L : List (Int32 × Int32 × Int32)} (h : CP S B n N i L) (hc : gI S 129 5 = iN cc) (hcc : cc < 8) (x : Int32) : ∃ U, f_A_addClause_129 S x = some (0, U) ∧ Fc PcT S U ∧ CP U B n N i L ∧ gI U 129 5 = iN (cc + 1) ∧ gI U 130 cc = x ∧ gI U 131 cc = iN L.length ∧ ∀ k, k ≠ cc → gI U 130 k = gI S 130 k ∧ gI U 131 k = gI S 131 k := by
  have u1 : gI (uI S 130 cc x) 129 5 = iN cc := (gI_ua (by decide)).trans hc
  have u2 : gI (uI S 130 cc x) 129 6 = iN L.length := (gI_ua (by decide)).trans h.2.2.2.2.2.1
  have u3 : gI (uI (uI S 130 cc x) 131 cc (iN L.length)) 129 5 = iN cc := (gI_ua (by decide)).trans u1
  have f : Fc (fun a i => (a = 129 ∧ i = 5) ∨ a = 130 ∨ a = 131) S (uI (uI (uI S 130 cc x) 131 cc (iN L.length)) 129 5 (iN (cc + 1))) := ((Fc.rfl'.uI (Or.inr (Or.inl rfl))).uI (Or.inr (Or.inr rfl))).uI (Or.inl ⟨rfl, rfl⟩)
  refine ⟨_, ?_, f.mono (fun a i z => Or.inr z), h.fc f (fun a i q => by omega), gI_us, ?_, ?_, fun k hk => ⟨?_, ?_⟩⟩
  · unfold f_A_addClause_129
    rw [hc, if_neg (le_n (a := 8) rfl (iN_i (by omega)) (by omega)), iN_c (by omega), u1, iN_c (by omega), u2, u3, ck_of (iN_b (by omega) (by decide)), ck_of (iN_b (by omega) (by decide)), iN_1]
  · rw [gI_ua (by decide), gI_ua (by decide), gI_us]
  · rw [gI_ua (by decide), gI_us]
  · rw [gI_ua (by decide), gI_ua (by decide), gI_un hk]
  · rw [gI_ua (by decide), gI_un hk, gI_ua (by decide)]
theorem tailC {j cc : Nat} {L : List (Int32 × Int32 × Int32)} (hN : TN B n N) (h : CP S B n N j L) (hc : gI S 129 5 = iN cc) (hcc : cc < 8) (x : Int32) : ∃ U, cEn x S = some (bI (decide (tkc B n j = 20159)), U) ∧ Fc PcT S U ∧ (tkc B n j = 20159 → CP U B n N (j + 1) L ∧ gI U 129 5 = iN (cc + 1) ∧ gI U 130 cc = x ∧ gI U 131 cc = iN L.length ∧ ∀ k, k ≠ cc → gI U 130 k = gI S 130 k ∧ gI U 131 k = gI S 131 k) ∧ (¬ tkc B n j = 20159 → CP U B n N j L) := by
  unfold cEn
  by_cases t : tkc B n j = 20159
  · obtain ⟨l1, l2, l3⟩ := hN.lt h.2.2.1 (by rw [t]; decide)
    obtain ⟨V, a1, a2, a3⟩ := pR_advance h l1
    obtain ⟨U, b1, b2, b3, b4, b5, b6, b7⟩ := pA_addClause a3 ((a2.1 129 5 (nPcA (by omega))).trans hc) hcc x
    refine ⟨U, ?_, (a2.mono (fun a i z => Or.inl (Or.inl z))).trans b2, fun _ => ⟨b3, b4, b5, b6, fun k hk => ?_⟩, fun z => absurd t z⟩
    · rw [h.2.2.2.2.1, if_pos t, a1, bd_s, b1, bd_s, decide_eq_true t]; rfl
    · rw [(b7 k hk).1, (b7 k hk).2, a2.1 130 k (nPcA (by omega)), a2.1 131 k (nPcA (by omega))]
      exact ⟨rfl, rfl⟩
  · refine ⟨S, ?_, Fc.rfl', fun z => absurd z t, fun _ => h⟩
    rw [h.2.2.2.2.1, if_neg t, decide_eq_false t]; rfl
theorem tk_n0 (hB : ∀ j, j < n → B j < 256) {i : Nat} (h : stq B n i < n) : tkc B n i ≠ 20000 ∧ kdq B n i ≠ 0 ∧ kdq B n i ≤ 3 := by
  rcases tk_cases (B := B) (n := n) i with ⟨c1, c2, c3⟩ | ⟨c1, c2, c3, c4⟩ | ⟨c1, c2, c3, c4⟩ | ⟨c1, c2, c3, c4, c5⟩
  · omega
  · refine ⟨?_, by omega, by omega⟩
    have hr := fiN_r (fun a => wdM B a (stq B n i) (enq B n i)) 16 0
    have hr : wdF B (stq B n i) (enq B n i) ≤ 16 := by unfold wdF; omega
    rw [c4]; exact (wdC_n _ (by omega)).2.2.2
  · refine ⟨?_, by omega, by omega⟩
    rcases c4 with ⟨d1, d2, d3⟩ | ⟨d1, d2⟩
    · rw [d3]; exact eq_i (b := 20000) (by omega) (by decide) (by omega)
    · rw [d2]; decide
  · have := hB _ c1
    refine ⟨?_, by omega, by omega⟩
    rw [c5]; exact eq_i (b := 20000) (by omega) (by decide) (by omega)
end
