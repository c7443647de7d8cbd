/-! Who reads the rows. -/
def jd (m : Nat → Int32) (l : Lz) (R : Nat → Nat → Int32) : Nat → Nat → Nat → Int32 → Int32
  | 0, _, _, _ => 0
  | k + 1, i, u, t => if cIx m (R i 0) = true ∧ mgC m l u (R i 0).toNatClampNeg 0 = true then (if R i 1 = iN (enn m (R i 0).toNatClampNeg) ∧ R i 2 = t + iN (qL m ((R i 0).toNatClampNeg / 2)) then jd m l R k (i + 1) (R i 0).toNatClampNeg (t + iN (qL m ((R i 0).toNatClampNeg / 2))) else iN (i + 1)) else iN (i + 1)
section
variable {k : cx} {S S1 S2 T : hs} {m m' : Nat → Int32} {l : Lz}
theorem mg_0 {u v w : Nat} (h : ckd m u v = 0) : mgC m l u v w = false := by
  rw [mgC_e, h]; rfl
theorem pX_judge_l (ht : IvT S m l) {r : Nat} (hr : r ≤ 20) (hr1 : gI S 33 6 = iN r) : ∀ (k i n u : Nat) (t : Int32) (T : hs), Fr (fun q => q = 80) S T → cIs m u = true → i + k = r → k < n → ∃ U, lp_X_judge_20 n T (iN u) t (iN i) = some (jd m l (fun i c => gI S (171 + i) c) k i u t, U) ∧ Fr (fun q => q = 80) S U := by
  have hss := ht.1.1.s.2
  have hcc := ht.1.1.c.2
  intro k
  induction k with
  | zero =>
    intro i n u t T f cu hi hn
    obtain ⟨n, rfl⟩ : ∃ q, n = q + 1 := ⟨n - 1, by omega⟩
    refine ⟨T, ?_, f⟩
    rw [lp_X_judge_20, (f 33 (by decide)).1, hr1, if_pos ((iN_le (by omega) (by omega)).mpr (by omega))]; rfl
  | succ k ih =>
    intro i n u t T f cu hi hn
    obtain ⟨n, rfl⟩ : ∃ q, n = q + 1 := ⟨n - 1, by omega⟩
    have cT := ht.1.fr f (fun a h1 h2 z => by have z : a = 80 := z; omega)
    have lT := ht.2.2.1.fr f (fun a h1 h2 z => by have z : a = 80 := z; omega)
    have eR : ∀ {U : hs} (c : Nat), Fr (fun q => q = 80) S U → gI U (171 + i) c = gI S (171 + i) c := fun c fU => (fU (171 + i) (show ¬ 171 + i = 80 by omega)).1 c
    have hu := cIs_lt cu
    rw [lp_X_judge_20, (f 33 (by decide)).1, hr1, if_neg (fun z => by have := (iN_le (by omega) (by omega)).mp z; omega), if_neg (le_n (b := (i : Int)) tl20 (iN_i (by omega)) (by omega)), ck_of (iN_b (by omega) (by decide)), iN_c (by omega), pT_turnNow cT, bd_s, iN_1, jd, eR 0 f]
    have hl := tkd_l (m := m) (iN u) (gI S (171 + i) 0)
    by_cases z : tkd m (iN u) (gI S (171 + i) 0) = 0
    · rw [if_pos z, if_pos rfl]
      refine ⟨T, ?_, f⟩
      rw [if_neg]
      intro y
      obtain ⟨v, ev, cv, hv, -⟩ := cIx_e ht.1.1 y.1
      rw [ev, iN_c (by omega)] at y
      rw [ev, tkd_n (by omega) (by omega)] at z
      rw [mg_0 z] at y
      exact absurd y.2 (by decide)
    · rw [if_neg ((m1ne hl).mpr z)]
      obtain ⟨u', v, eu, ev, -, cv, -, hv, -⟩ := tkd_c ht.1.1 z
      obtain ⟨U, h1, f1⟩ := may2 (w := 0) cT lT cu cv (by omega)
      have fU := f.trans f1
      have cU := ht.1.fr fU (fun a h1 h2 z => by have z : a = 80 := z; omega)
      rw [ev, show (0 : Int32) = iN 0 from rfl, h1, bd_s, iN_c (by omega), cIx_n (by omega), cv]
      show ∃ W, (if bI (mgC m l u v 0) = 0 then _ else _) = _ ∧ _
      rw [if_bI]
      cases hg : mgC m l u v 0 with
      | false =>
        refine ⟨U, ?_, fU⟩
        rw [bt_f, if_neg (fun y => absurd y.2 (by decide))]
      | true =>
        rw [bt_t, if_pos ⟨rfl, rfl⟩, pT_longOf cU hv, bd_s, pT_endOf cU hv, bd_s, eR 1 fU, eR 2 fU]
        by_cases y1 : gI S (171 + i) 1 = iN (enn m v)
        · rw [if_pos y1]
          by_cases y2 : gI S (171 + i) 2 = t + iN (qL m (v / 2))
          · rw [if_pos y2, if_pos ⟨y1, y2⟩]
            exact ih (i + 1) n v _ U fU cv (by omega) (by omega)
          · rw [if_neg y2, if_neg (fun y => y2 y.2)]; exact ⟨U, rfl, fU⟩
        · rw [if_neg y1, if_neg (fun y => y1 y.1)]; exact ⟨U, rfl, fU⟩
theorem pM_judge_l (hn : Tn S m) (hlm : LwM m l) (hi3 : gI S 191 3 = -1) {r : Nat} (hr : r ≤ 20) (hr1 : gI S 191 23 = iN r) : ∀ (k i n u : Nat) (t : Int32) (T : hs), Fr (fun q => q = 200) S T → cIs m u = true → i + k = r → k < n → ∃ U, lp_M_judge_17 n T (iN u) t (iN i) = some (jd m l (fun i c => gI S 205 (3 * i + c)) k i u t, U) ∧ Fr (fun q => q = 200) S U := by
  have hss := hn.1.s.2
  have hcc := hn.1.c.2
  intro k
  induction k with
  | zero =>
    intro i n u t T f cu hi hn
    obtain ⟨n, rfl⟩ : ∃ q, n = q + 1 := ⟨n - 1, by omega⟩
    refine ⟨T, ?_, f⟩
    rw [lp_M_judge_17, (f 191 (by decide)).1, hr1, if_pos ((iN_le (by omega) (by omega)).mpr (by omega))]; rfl
  | succ k ih =>
    intro i n u t T f cu hi hk
    obtain ⟨n, rfl⟩ : ∃ q, n = q + 1 := ⟨n - 1, by omega⟩
    have nT := hn.fr f (by decide)
    have eR : ∀ {U : hs} (c : Nat), Fr (fun q => q = 200) S U → gI U 205 c = gI S 205 c := fun c fU => (fU 205 (by decide)).1 c
    have hu := cIs_lt cu
    have z0 : (3 : Int32) * iN i = iN (3 * i) := by show iN 3 * iN i = _; rw [iN_m]
    have z1 : iN (3 * i) + (1 : Int32) = iN (3 * i + 1) := iN_1 _
    have z2 : iN (3 * i) + (2 : Int32) = iN (3 * i + 2) := iN_a _ 2
    have z3 : (1 : Int32) + iN i = iN (i + 1) := by show iN 1 + iN i = _; rw [iN_a]; congr 1; omega
    rw [lp_M_judge_17, (f 191 (by decide)).1, hr1, if_neg (fun z => by have := (iN_le (by omega) (by omega)).mp z; omega), z0, z1, z2, z3, ck_of (iN_b (by omega) (by decide)), iN_c (by omega), iN_c (by omega), iN_c (by omega), eR _ f, jd]
    simp only [Nat.add_zero]
    by_cases y0 : 0 ≤ (gI S 205 (3 * i)).toInt ∧ (gI S 205 (3 * i)).toInt ≤ 39
    · obtain ⟨v, ev, hv, eev⟩ := iN_of y0.1
      rw [(isCN_y y0).2, bd_s, if_neg (by decide), ev]
      obtain ⟨U, h1, f1⟩ := pM_mayGo (u := u) (v := v) (w := 0) nT hlm (((f 191 (by decide)).1 3).trans hi3) (by omega) (by omega) (by omega)
      have fU := f.trans f1
      have nU := hn.fr fU (by decide)
      rw [show (0 : Int32) = iN 0 from rfl, h1, bd_s, iN_c (by omega), cIx_n (by omega)]
      show ∃ W, (if bI (mgC m l u v 0) = 0 then _ else _) = _ ∧ _
      rw [if_bI]
      cases hg : mgC m l u v 0 with
      | false =>
        refine ⟨U, ?_, fU⟩
        rw [bt_f, if_neg (fun y => absurd y.2 (by decide))]
      | true =>
        have cv : cIs m v = true := by
          unfold mgC at hg
          simp only [Bool.and_eq_true] at hg
          exact hg.1.2
        have hv := cIs_lt cv
        rw [bt_t, if_pos ⟨cv, rfl⟩, iN_d2 (by omega), pM_longOf nU (half_lt hv), bd_s, ck_of (iN_b (by omega) (by decide)), pM_endOf nU hv, bd_s, eR _ fU, eR _ fU]
        by_cases y1 : gI S 205 (3 * i + 1) = iN (enn m v)
        · rw [if_pos y1, ck_of (iN_b (by omega) (by decide))]
          by_cases y2 : gI S 205 (3 * i + 2) = t + iN (qL m (v / 2))
          · rw [if_pos y2, if_pos ⟨y1, y2⟩, iN_1]
            exact ih (i + 1) n v _ U fU cv (by omega) (by omega)
          · rw [if_neg y2, if_neg (fun y => y2 y.2)]; exact ⟨U, rfl, fU⟩
        · rw [if_neg y1, if_neg (fun y => y1 y.1)]; exact ⟨U, rfl, fU⟩
    · rw [(isCN_n y0).2, bd_s, if_pos rfl]
      refine ⟨T, ?_, f⟩
      rw [if_neg]
      intro y
      obtain ⟨v, ev, cv, hv, h40⟩ := cIx_e hn.1 y.1
      have hv2 : (gI S 205 (3 * i)).toInt = (v : Int) := by
        have : gI S 205 (3 * i) = iN v := ev
        rw [this, iN_i (by omega)]
      omega
theorem jd_cg {R R' : Nat → Nat → Int32} {r : Nat} (e : ∀ i, i < r → ∀ c, c < 3 → R i c = R' i c) : ∀ (k i u : Nat) (t : Int32), i + k = r → jd m l R k i u t = jd m l R' k i u t := by
  intro k
  induction k with
  | zero => intro i u t _; rfl
  | succ k ih =>
    intro i u t h
    rw [jd, jd, e i (by omega) 0 (by omega), e i (by omega) 1 (by omega), e i (by omega) 2 (by omega), ih _ _ _ (by omega)]
theorem q_judge (h : Inv k S) (x : Int32) : Q2 k S (f_X_judge S x) (fun T => f_M_judge T x) := by
  obtain ⟨m, l, ht⟩ := h.1
  have hc := ht.1
  have hn := ht.2.1
  obtain ⟨r, hr, r1, r2, r3⟩ := h.2.2.1
  by_cases q : cIx m x = true
  · obtain ⟨u, rfl, cu, hu, -⟩ := cIx_e hc.1 q
    obtain ⟨S1, h1, f1⟩ := pX_judge_l ht hr r1 r 0 1000 u 0 S Fr.rfl' cu (by omega) (by omega)
    have f1' := f1.mono scr80
    have ht1 := ht.fr f1'
    obtain ⟨S2, h2, f2⟩ := pM_judge_l ht1.2.1 ht1.2.2.2 (((f1' 191 (nScr (by omega))).1 3).trans h.2.2.2.2.2.2.2.2) hr (((f1' 191 (nScr (by omega))).1 23).trans r2) r 0 1000 u 0 S1 Fr.rfl' cu (by omega) (by omega)
    refine Q2.fr (r := jd m l (fun i c => gI S (171 + i) c) r 0 u 0) h ?_ ?_ f1' (f2.mono scr200)
    · unfold f_X_judge
      rw [pT_hasCourse hc, q, bd_s, if_bI, bt_t]
      exact h1
    · show f_M_judge S1 _ = _
      unfold f_M_judge
      rw [pM_isCourse ht1.2.1, q, bd_s, if_bI, bt_t]
      have e := jd_cg (m := m) (l := l) (R := fun i c => gI S (171 + i) c) (R' := fun i c => gI S1 205 (3 * i + c)) (r := r) (fun i hi c hc => by rw [(f1' 205 (nScr (by omega))).1]; exact r3 i hi c hc) r 0 u 0 (by omega)
      rw [e]
      exact h2
  · have q := Bool.eq_false_iff.mpr q
    refine Q2.same (r := -1) h ?_ ?_
    · unfold f_X_judge
      rw [pT_hasCourse hc, q, bd_s, if_bI, bt_f]
    · show f_M_judge S _ = _
      unfold f_M_judge
      rw [pM_isCourse hn, q, bd_s, if_bI, bt_f]
end
