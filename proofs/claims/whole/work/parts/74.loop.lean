/-! loop. -/
def mn1 : Option Nat → Nat → Nat
  | none, x => x
  | some a, x => if x < a then x else a
def lpB (p : Nat → Bool) (c : Nat → Nat) : Nat → Nat → Option Nat → Option Nat
  | 0, _, b => b
  | r + 1, i, b => lpB p c r (i + 1) (if p i = true then some (mn1 b (c i)) else b)
theorem lpB_more {p : Nat → Bool} {c : Nat → Nat} : ∀ (j k i : Nat) (b : Option Nat), (∀ x, i + j ≤ x → p x = false) → lpB p c (j + k) i b = lpB p c j i b := by
  intro j
  induction j with
  | zero =>
    intro k
    induction k with
    | zero => intro i b _; rfl
    | succ k ih =>
      intro i b h
      rw [Nat.zero_add]
      show lpB p c k (i + 1) (if p i = true then some (mn1 b (c i)) else b) = b
      rw [if_neg (by rw [h i (by omega)]; decide)]
      have := ih (i + 1) b (fun x hx => h x (by omega))
      rw [Nat.zero_add] at this
      exact this
  | succ j ih =>
    intro k i b h
    rw [Nat.succ_add]
    show lpB p c (j + k) (i + 1) _ = lpB p c j (i + 1) _
    rw [ih k (i + 1) _ (fun x hx => h x (by omega))]
theorem lpB_b {p : Nat → Bool} {c : Nat → Nat} {M : Nat} (h : ∀ x, p x = true → c x ≤ M) : ∀ (r i : Nat) (b : Option Nat), (∀ a, b = some a → a ≤ M) → ∀ a, lpB p c r i b = some a → a ≤ M := by
  intro r
  induction r with
  | zero => intro i b hb a h; exact hb a h
  | succ r ih =>
    intro i b hb a ha
    refine ih (i + 1) _ (fun y hy => ?_) a ha
    by_cases q : p i = true
    · rw [if_pos q] at hy
      cases hy
      have := h i q
      cases b with
      | none => exact this
      | some z =>
        have := hb z rfl
        show (if c i < z then c i else z) ≤ M
        split <;> omega
    · rw [if_neg q] at hy; exact hb y hy
section
variable {k : cx} {S S1 S2 T : hs} {m m' : Nat → Int32} {l : Lz} {E : Nat → Nat → Bool}
theorem min_c {b : Option Nat} {x D : Nat} (hD : D ≤ 1000000) (hx : x < D) (hb : ∀ a, b = some a → a ≤ D) : f_Ma_min S (oC (iN D) b) (iN x) = some (oC (iN D) (some (mn1 b x)), S) := by
  unfold f_Ma_min
  cases b with
  | none =>
    show (if iN x < iN D then some (iN x, S) else some (iN D, S)) = some (iN x, S)
    rw [if_pos ((iN_lt (by omega) (by omega)).mpr hx)]
  | some a =>
    have := hb a rfl
    show (if iN x < iN a then some (iN x, S) else some (iN a, S)) = some (iN (if x < a then x else a), S)
    by_cases q : x < a
    · rw [if_pos ((iN_lt (by omega) (by omega)).mpr q), if_pos q]
    · rw [if_neg (fun z => q ((iN_lt (by omega) (by omega)).mp z)), if_neg q]
theorem min_b {b : Option Nat} {x D : Nat} (hD : D ≤ 1000000) (hx : D ≤ x) (hx2 : x < 2147483648) (hb : ∀ a, b = some a → a ≤ D) : f_Ma_min S (oC (iN D) b) (iN x) = some (oC (iN D) b, S) := by
  unfold f_Ma_min
  cases b with
  | none =>
    show (if iN x < iN D then some (iN x, S) else some (iN D, S)) = some (iN D, S)
    rw [if_neg (fun z => by have := (iN_lt (by omega) (by omega)).mp z; omega)]
  | some a =>
    have := hb a rfl
    show (if iN x < iN a then some (iN x, S) else some (iN a, S)) = some (iN a, S)
    rw [if_neg (fun z => by have := (iN_lt (by omega) (by omega)).mp z; omega)]
/-- ways back -/
def pL (d : Nat → Nat) (m : Nat → Int32) (E : Nat → Nat → Bool) (u v : Nat) : Bool := eC E (cIs m) u v && decide (d v < 1000000)
theorem mn_b {b : Option Nat} {x M : Nat} (hx : x ≤ M) (hb : ∀ a, b = some a → a ≤ M) : ∀ a, some (mn1 b x) = some a → a ≤ M := fun a h => by
  cases h
  cases b with
  | none => exact hx
  | some z =>
    have := hb z rfl
    show (if x < z then x else z) ≤ M
    split <;> omega
theorem wlo_l (hW : Wy T m E) (v0 : VM m) {u : Nat} (hM : Ms T m E (fun t => t = u)) (cu : cIs m u = true) : ∀ (r v n : Nat) (b : Option Nat), v + r = 2 * nSt m → r < n → (∀ a, b = some a → a ≤ 738) → lp_W_loopOf_27 (iN u) n T (oC (iN 1000000) b) (iN v) = some (oC (iN 1000000) (lpB (pL (dF T) m E u) (fun v => dF T v + lNg m v) r v b), T) := by
  have hss := v0.s.2
  have hu := cIs_lt cu
  intro r
  induction r with
  | zero =>
    intro v n b hv hn hb
    obtain ⟨n, rfl⟩ : ∃ q, n = q + 1 := ⟨n - 1, by omega⟩
    obtain rfl : v = 2 * nSt m := by omega
    rw [lp_W_loopOf_27, hW.1.1, if_pos ((iN_le (by omega) (by omega)).mpr (by omega))]
    rfl
  | succ r ih =>
    intro v n b hv hn hb
    obtain ⟨n, rfl⟩ : ∃ q, n = q + 1 := ⟨n - 1, by omega⟩
    obtain ⟨e1, e2⟩ := hM.1 v (by omega)
    have lv := lNg_r v0 (v := v) (by omega)
    have e4 : gI T 141 v = iN (lNg m v) := (hW.1.2.2.1 v (by omega)).2.2
    have i6 : (1000000 : Int32) = iN 1000000 := rfl
    have jv : jb (gJ T 142 u &&& gJ T 138 8) v = eC E (cIs m) u v := by
      rw [jb_and, hW.2 u hu v (by omega), hW.1.2.2.2.1 v (by omega)]
      unfold eC
      rw [cu, Bool.true_and, Bool.and_comm]
    rw [lp_W_loopOf_27, hW.1.1, if_neg (fun z => by have := (iN_le (by omega) (by omega)).mp z; omega), ck_of (iN_b (by omega) (by decide)), iN_c (by omega), pX_isIn (by omega), bd_s, if_bI, jv, lpB, iN_1]
    cases g : eC E (cIs m) u v with
    | false =>
      rw [bt_f, if_neg (by unfold pL; rw [g, Bool.false_and]; decide)]
      exact ih (v + 1) n b (by omega) (by omega) hb
    | true =>
      rw [bt_t, ck_of (iN_b (by omega) (by decide)), iN_c (by omega), e1, e4, iN_a, i6]
      by_cases q : dF T v < 1000000
      · have h7 := (hM.2.1 v (by omega) q).1
        rw [if_neg (fun z => by have := (iN_le (by omega) (by omega)).mp z; omega), min_c (by omega) (by omega) (fun a h => by have := hb a h; omega), bd_s, if_pos (by unfold pL; rw [g, decide_eq_true q]; rfl)]
        exact ih (v + 1) n _ (by omega) (by omega) (mn_b (by omega) hb)
      · rw [if_pos ((iN_le (by omega) (by omega)).mpr (by omega)), if_neg (by unfold pL; rw [decide_eq_false q, Bool.and_false]; decide)]
        exact ih (v + 1) n b (by omega) (by omega) hb
theorem loop_cmp {U : hs} {u v : Nat} (hM : Ms T m E (fun t => t = u)) (hF : Fi U (eC E (cIs m)) (lNg m) v) (hx : ∀ a x, eC E (cIs m) a x = true → gF U x ≤ gF U a + lNg m x) (hv : v < 2 * nSt m) (hu : u < 40) (hu2 : u < 2 * nSt m) : (dF T v = gF U u ∧ gF U u ≤ 720) ∨ (dF T v = 1000000 ∧ gF U u = 100000) := by
  obtain ⟨m1, m2, m3, m4⟩ := hM
  have hup : gF U u < 100000 → dF T v ≤ gF U u := fun h => by
    obtain ⟨n, hw⟩ := hF.2.2 u hu h
    exact Wk.min (Tg := fun t => t = u) (fun t ht => m3 t (by have ht : t = u := ht; omega) ht) m4 hw rfl
  have hb := (m1 v hv).2
  have hg := (hF.1 u hu).2
  by_cases q : dF T v < 1000000
  · obtain ⟨a, -, t, t1, n, t2⟩ := m2 v hv q
    have t1 : t = u := t1
    subst t1
    have := WS.min0 hx t2
    have := hF.2.1
    have := hup (by omega)
    exact Or.inl ⟨by omega, by omega⟩
  · refine Or.inr ⟨by omega, ?_⟩
    rcases Nat.lt_or_ge (gF U u) 100000 with z | z
    · have := hup z; omega
    · omega
theorem mlo_l {Tk : hs} {u : Nat} (hM : Ms Tk m E (fun t => t = u)) (cu : cIs m u = true) {K : hs → Int32 → Int32 → Option (Int32 × hs)} : ∀ (r v n : Nat) (b : Option Nat) (T : hs), Tn T m → On T (eC E (cIs m)) → v + r = 40 → r < n → (∀ a, b = some a → a ≤ 738) → ∃ U, lp_M_loop_30 (iN u) K n T (oC (iN 100000) b) (iN v) = K U (oC (iN 100000) (lpB (pL (dF Tk) m E u) (fun v => dF Tk v + lNg m v) r v b)) (iN 40) ∧ Fr (fun q => q = 202) T U := by
  intro r
  induction r with
  | zero =>
    intro v n b T hT hO hv hn hb
    obtain ⟨n, rfl⟩ : ∃ q, n = q + 1 := ⟨n - 1, by omega⟩
    obtain rfl : v = 40 := by omega
    exact ⟨T, by rw [lp_M_loop_30, if_pos i40e]; rfl, Fr.rfl'⟩
  | succ r ih =>
    intro v n b T hT hO hv hn hb
    obtain ⟨n, rfl⟩ : ∃ q, n = q + 1 := ⟨n - 1, by omega⟩
    have hss := hT.1.s.2
    have hu := cIs_lt cu
    have d40 : decide (v < 40) = true := decide_eq_true (by omega)
    rw [lp_M_loop_30, if_neg (i40 (by omega)), ck_of (iN_b (by omega) (by decide)), iN_c (by omega), pM_hasBit (by omega), bd_s, if_bI, hO u (by omega) v (by omega), d40, Bool.true_and, lpB, iN_1]
    cases g : eC E (cIs m) u v with
    | false =>
      rw [bt_f, if_neg (by unfold pL; rw [g, Bool.false_and]; decide)]
      exact ih (v + 1) n b T hT hO (by omega) (by omega) hb
    | true =>
      have hv2 := (eC_lt g).2
      have lv := lNg_r hT.1 hv2
      obtain ⟨V, b1, b2, b3, b4⟩ := pM_findFar (fun u v g => eC_lt g) (s := v) (by omega) hT hO
      have hT2 := hT.fr b2 (n202 (by decide))
      have hO2 := hO.fr b2 (n202 (by decide))
      have lo : f_M_longOf V (iN v / (2 : Int32)) = some (iN (lNg m v), V) := by rw [iN_d2 (by omega)]; exact pM_longOf hT2 (half_lt hv2)
      rw [bt_t, b1, bd_s, lo, bd_s, (b3.1 u (by omega)).1, iN_a]
      rcases loop_cmp hM b3 b4 hv2 (by omega) hu with ⟨e1, e2⟩ | ⟨e1, e2⟩
      · rw [min_c (by omega) (by omega) (fun a h => by have := hb a h; omega), bd_s, if_pos (by unfold pL; rw [g, decide_eq_true (by omega)]; rfl), show lNg m v + gF V u = dF Tk v + lNg m v from by omega]
        obtain ⟨U, c1, c2⟩ := ih (v + 1) n (some (mn1 b (dF Tk v + lNg m v))) V hT2 hO2 (by omega) (by omega) (mn_b (by omega) hb)
        exact ⟨U, c1, b2.trans c2⟩
      · rw [min_b (by omega) (by omega) (by omega) (fun a h => by have := hb a h; omega), bd_s, if_neg (by unfold pL; rw [decide_eq_false (by omega), Bool.and_false]; decide)]
        obtain ⟨U, c1, c2⟩ := ih (v + 1) n b V hT2 hO2 (by omega) (by omega) hb
        exact ⟨U, c1, b2.trans c2⟩
theorem q_loop (h : Inv k S) (x z : Int32) : Q2 k S (f_X_loop S x z) (fun T => f_M_loop T x z) := by
  obtain ⟨m, l, ht⟩ := h.1
  have hc := ht.1
  have hn := ht.2.1
  have hss := hc.1.s.2
  by_cases q : cIx m x = true
  · by_cases q1 : 0 ≤ z.toInt ∧ z.toInt ≤ 9
    · obtain ⟨u, rfl, cu, hu, h40⟩ := cIx_e hc.1 q
      obtain ⟨w, rfl, hw, ew⟩ := iN_of q1.1
      obtain ⟨S1, a1, a2, a3⟩ := prep2 h ht (w := w) (by omega)
      obtain ⟨U1, b1, b2, b3⟩ := pW_measure a3 hc.1 (X := (1 : Int64) <<< ((iN u).toInt64 &&& 63)) (Tg := fun t => t = u) (fun t => by rw [jb_sh (by omega)]; exact decide_eq_true_iff) (fun t ht => by have ht : t = u := ht; rw [ht]; exact cu)
      have f := a2.trans (f144 b2)
      have ht1 := ht.fr f
      obtain ⟨S2, c1, c2, c3, c4⟩ := onto2 (fr3 h f) ht1 (w := w) (by omega)
      have d1 := wlo_l (a3.f144 b2) hc.1 b3 cu (2 * nSt m) 0 1000 none (by omega) (by omega) (fun a h => by cases h)
      obtain ⟨S3, e1, e2⟩ := mlo_l b3 cu (K := fun (S27 : hs) (y28 : Int32) (y29 : Int32) => (if y28 < (100000 : Int32) then some (y28, S27) else some ((-3 : Int32), S27))) 40 0 1000 none S2 c4 c3 (by omega) (by omega) (fun a h => by cases h)
      have mo := lpB_more (p := pL (dF U1) m (fun u v => mgW m l u v w) u) (c := fun v => dF U1 v + lNg m v) (2 * nSt m) (40 - 2 * nSt m) 0 none (fun x hx => by
        cases g : eC (fun u v => mgW m l u v w) (cIs m) u x with
        | false => unfold pL; rw [g]; rfl
        | true => have := (eC_lt g).2; omega)
      rw [show 2 * nSt m + (40 - 2 * nSt m) = 40 from by omega] at mo
      rw [mo] at e1
      have bb := lpB_b (p := pL (dF U1) m (fun u v => mgW m l u v w) u) (c := fun v => dF U1 v + lNg m v) (M := 738) (fun x hx => by
        unfold pL at hx
        simp only [Bool.and_eq_true, decide_eq_true_eq] at hx
        have hx2 := (eC_lt hx.1).2
        have := lNg_r hc.1 hx2
        have := (b3.2.1 x hx2 hx.2).1
        show dF U1 x + lNg m x ≤ 738
        omega) (2 * nSt m) 0 none (fun a h => by cases h)
      have lo : f_W_loopOf S1 (iN u) = some (oC (iN 1000000) (lpB (pL (dF U1) m (fun u v => mgW m l u v w) u) (fun v => dF U1 v + lNg m v) (2 * nSt m) 0 none), U1) := by
        unfold f_W_loopOf
        rw [a3.1.1, if_neg (lt_n (iN_i (by omega)) tl0 (by omega)), if_pos ((iN_lt (by omega) (by omega)).mpr hu), b1, bd_s]
        exact d1
      generalize hX : lpB (pL (dF U1) m (fun u v => mgW m l u v w) u) (fun v => dF U1 v + lNg m v) (2 * nSt m) 0 none = X at lo e1 bb
      refine Q2.fr (r := oC (-3) X) h (S1 := U1) (S2 := S3) ?_ ?_ f (c2.trans (f202 e2))
      · unfold f_X_loop
        rw [hco_y hc q, bd_s, if_neg (by decide), (isWidth_y q1).1, bd_s, if_neg (by decide), a1, bd_s, lo, bd_s]
        cases X with
        | none => rfl
        | some a =>
          have := bb a rfl
          exact if_neg (ne6 (by omega) (by omega))
      · show f_M_loop U1 _ _ = _
        unfold f_M_loop
        rw [mco_y ht1.2.1 q, bd_s, if_neg (by decide), (isWidth_y q1).2, bd_s, if_neg (by decide), c1, bd_s]
        refine Eq.trans e1 ?_
        cases X with
        | none => rfl
        | some a =>
          have := bb a rfl
          exact if_pos (lt5 (by omega))
    · refine Q2.same (r := -1) h ?_ ?_
      · unfold f_X_loop
        rw [hco_y hc q, bd_s, if_neg (by decide), (isWidth_n q1).1, bd_s, if_pos rfl]
      · show f_M_loop S _ _ = _
        unfold f_M_loop
        rw [mco_y hn q, bd_s, if_neg (by decide), (isWidth_n q1).2, bd_s, if_pos rfl]
  · have q := Bool.eq_false_iff.mpr q
    refine Q2.same (r := -1) h ?_ ?_
    · unfold f_X_loop
      rw [hco_n hc q, bd_s, if_pos rfl]
    · show f_M_loop S _ _ = _
      unfold f_M_loop
      rw [mco_n hn q, bd_s, if_pos rfl]
end
