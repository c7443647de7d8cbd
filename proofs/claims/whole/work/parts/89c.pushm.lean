/-! What a clause's codes push upon the model's pile. -/
def CdA (m : Nat → Int32) (p : Nat) (L : List Int32) : Prop := ∀ j, j < L.length → m (141 + (p + j)) = L.getD j 0
def PushM (q : Nat) (L : List Int32) (v : (Nat → Int32) → Bool) : Prop := ∀ (T : hs) (m : Nat → Int32) (a b w e f p h : Nat) (K : hs → Int32 → Int32 → Option (Int32 × hs)), Tn T m → a < 2 * nSt m → b < 2 * nSt m → p + L.length ≤ e → e ≤ 200 → h + q ≤ 40 → CdA m p L → ∃ U, lp_M_holds_13 (iN e) (iN a) (iN b) (iN w) K (f + L.length) T (iN h) (iN p) = lp_M_holds_13 (iN e) (iN a) (iN b) (iN w) K f U (iN (h + 1)) (iN (p + L.length)) ∧ Fr (fun q => q = 200) T U ∧ gI U 200 h = bI (v (fcs m a b w)) ∧ ∀ j, j < h → gI U 200 j = gI T 200 j
theorem gd_l (L1 L2 : List Int32) : ∀ j, j < L1.length → (L1 ++ L2).getD j 0 = L1.getD j 0 := by
  induction L1 with
  | nil => intro j hj; exact absurd hj (Nat.not_lt_zero _)
  | cons c L ih =>
    intro j hj
    cases j with
    | zero => rfl
    | succ j => exact ih j (by have hj : j + 1 < L.length + 1 := hj; omega)
theorem gd_r (L1 L2 : List Int32) : ∀ j, (L1 ++ L2).getD (L1.length + j) 0 = L2.getD j 0 := by
  induction L1 with
  | nil => intro j; show L2.getD (0 + j) 0 = _; rw [Nat.zero_add]
  | cons c L ih =>
    intro j
    show ((c :: (L ++ L2)).getD (L.length + 1 + j) 0) = _
    rw [show L.length + 1 + j = (L.length + j) + 1 from by omega]
    exact ih j
theorem CdA.app {m : Nat → Int32} {p : Nat} {L1 L2 : List Int32} (h : CdA m p (L1 ++ L2)) : CdA m p L1 ∧ CdA m (p + L1.length) L2 := by
  refine ⟨fun j hj => ?_, fun j hj => ?_⟩
  · rw [h j (by rw [List.length_append]; omega), gd_l _ _ _ hj]
  · have := h (L1.length + j) (by rw [List.length_append]; omega)
    rw [gd_r] at this
    rw [show p + L1.length + j = p + (L1.length + j) from by omega]; exact this
theorem did_c {S : hs} {op : Nat} (ho : op ≤ 2) (x y : Int32) : f_M_did S (iN (20002 + op)) x y = some (bI (cmV (iN op) x y), S) := by
  have e0 : cmV (iN 0) x y = !decide (y ≤ x) := if_pos rfl
  have e1 : cmV (iN 1) x y = decide (x = y) := by
    unfold cmV
    rw [if_neg (show ¬ iN 1 = (0 : Int32) by decide), if_pos (show iN 1 = (1 : Int32) from rfl)]
  have e2 : cmV (iN 2) x y = !decide (x ≤ y) := by
    unfold cmV
    rw [if_neg (show ¬ iN 2 = (0 : Int32) by decide), if_neg (show ¬ iN 2 = (1 : Int32) by decide)]
  have : op = 0 ∨ op = 1 ∨ op = 2 := by omega
  unfold f_M_did
  rcases this with rfl | rfl | rfl
  · rw [if_neg (by decide), if_neg (by decide), if_pos (by decide), e0]
    by_cases z : y ≤ x
    · rw [if_pos z, decide_eq_true z]; rfl
    · rw [if_neg z, decide_eq_false z]; rfl
  · rw [if_neg (by decide), if_neg (by decide), if_neg (by decide), if_pos (by decide), e1]
    by_cases z : x = y
    · rw [if_pos z, decide_eq_true z]; rfl
    · rw [if_neg z, decide_eq_false z]; rfl
  · rw [if_neg (by decide), if_neg (by decide), if_neg (by decide), if_neg (by decide), e2]
    by_cases z : x ≤ y
    · rw [if_pos z, decide_eq_true z]; rfl
    · rw [if_neg z, decide_eq_false z]; rfl
theorem did_a {S : hs} (x y : Bool) : f_M_did S 20001 (bI x) (bI y) = some (bI (x && y), S) := by cases x <;> cases y <;> rfl
theorem did_o {S : hs} (x y : Bool) : f_M_did S 20000 (bI x) (bI y) = some (bI (x || y), S) := by cases x <;> cases y <;> rfl
theorem PushM.cmp {op : Nat} (ho : op ≤ 2) {x y : Int32} (hx : vOk x) (hy : vOk y) : PushM 2 [x, y, iN (20002 + op)] (fun f => cmV (iN op) (vlF f x) (vlF f y)) := by
  intro T m a b w e f p h K hT ha hb hp he hh hc
  have hp : p + 3 ≤ e := hp
  have c0 : m (141 + p) = x := hc 0 (by show 0 < 3; omega)
  have c1 : m (141 + (p + 1)) = y := hc 1 (by show 1 < 3; omega)
  have c2 : m (141 + (p + 2)) = iN (20002 + op) := hc 2 (by show 2 < 3; omega)
  have f1 : Fr (fun q => q = 200) T (uI T 200 h (vlF (fcs m a b w) x)) := Fr.rfl'.uI rfl
  have f2 : Fr (fun q => q = 200) T (uI (uI T 200 h (vlF (fcs m a b w) x)) 200 (h + 1) (vlF (fcs m a b w) y)) := f1.uI rfl
  have hT1 := hT.fr f1 (by decide)
  have hT2 := hT.fr f2 (by decide)
  have s1 := hm_v (T := T) (e := e) (f := f + 1 + 1) (h := h) (p := p) (w := w) (K := K) hT ha hb (by omega) he (by omega) (by rw [c0]; exact hx)
  have s2 := hm_v (e := e) (f := f + 1) (h := h + 1) (p := p + 1) (w := w) (K := K) hT1 ha hb (by omega) he (by omega) (by rw [c1]; exact hy)
  rw [c0] at s1
  rw [c1] at s2
  have s3 := hm_o (a := a) (b := b) (w := w) (e := e) (f := f) (h := h) (p := p + 1 + 1) (K := K) hT2 (by omega) he (by omega) c2 (le_y (a := 20000) rfl (iN_i (by omega)) (by omega)) (eq_i (b := 20005) (by omega) (by decide) (by omega)) ((gI_un (by omega)).trans gI_us) gI_us (did_c ho _ _)
  refine ⟨_, s1.trans (s2.trans s3), f2.uI rfl, gI_us, fun j hj => ?_⟩
  rw [gI_un (by omega), gI_un (by omega), gI_un (by omega)]
theorem PushM.neg {q : Nat} {L : List Int32} {v : (Nat → Int32) → Bool} (h : PushM q L v) (hq : 1 ≤ q) : PushM q (L ++ [20005]) (fun f => !v f) := by
  intro T m a b w e f p hh K hT ha hb hp he hl hc
  rw [List.length_append] at hp ⊢
  have hp : p + (L.length + 1) ≤ e := hp
  obtain ⟨c1, c2⟩ := hc.app
  have c3 : m (141 + (p + L.length)) = 20005 := c2 0 (by decide)
  obtain ⟨U, a1, a2, a3, a4⟩ := h T m a b w e (f + 1) p hh K hT ha hb (by omega) he hl c1
  have s := hm_n (a := a) (b := b) (w := w) (e := e) (f := f) (h := hh) (p := p + L.length) (K := K) (hT.fr a2 (by decide)) (by omega) he (by omega) c3 a3
  refine ⟨_, ?_, a2.uI rfl, gI_us, fun j hj => by rw [gI_un (by omega)]; exact a4 j hj⟩
  show lp_M_holds_13 _ _ _ _ K (f + (L.length + 1)) T _ _ = _
  rw [show f + (L.length + 1) = f + 1 + L.length from by omega]
  exact a1.trans s
theorem PushM.two {q q1 q2 : Nat} {L1 L2 : List Int32} {v1 v2 : (Nat → Int32) → Bool} {cd : Int32} {o : Bool → Bool → Bool} (hcd : (20000 : Int32) ≤ cd) (hcd2 : cd ≠ 20005) (hd : ∀ (S : hs) x y, f_M_did S cd (bI x) (bI y) = some (bI (o x y), S)) (h : PushM q1 L1 v1) (h' : PushM q2 L2 v2) (hq1 : q1 ≤ q) (hq2 : q2 + 1 ≤ q) (hq : 2 ≤ q) : PushM q (L1 ++ L2 ++ [cd]) (fun f => o (v1 f) (v2 f)) := by
  intro T m a b w e f p hh K hT ha hb hp he hl hc
  rw [List.length_append, List.length_append] at hp ⊢
  have hp : p + (L1.length + L2.length + 1) ≤ e := hp
  obtain ⟨c12, c3⟩ := hc.app
  obtain ⟨c1, c2⟩ := c12.app
  rw [List.length_append] at c3
  have c4 : m (141 + (p + L1.length + L2.length)) = cd := by
    have := c3 0 (by show 0 < 1; omega)
    rw [show p + L1.length + L2.length = p + (L1.length + L2.length) + 0 from by omega]; exact this
  obtain ⟨U, a1, a2, a3, a4⟩ := h T m a b w e (f + 1 + L2.length) p hh K hT ha hb (by omega) he (by omega) c1
  have hU := hT.fr a2 (by decide)
  obtain ⟨V, b1, b2, b3, b4⟩ := h' U m a b w e (f + 1) (p + L1.length) (hh + 1) K hU ha hb (by omega) he (by omega) c2
  have s := hm_o (a := a) (b := b) (w := w) (e := e) (f := f) (h := hh) (p := p + L1.length + L2.length) (K := K) (hU.fr b2 (by decide)) (by omega) he (by omega) c4 hcd hcd2 ((b4 hh (by omega)).trans a3) b3 (hd V _ _)
  refine ⟨_, ?_, (a2.trans b2).uI rfl, gI_us, fun j hj => by rw [gI_un (by omega), b4 j (by omega)]; exact a4 j hj⟩
  show lp_M_holds_13 _ _ _ _ K (f + (L1.length + L2.length + 1)) T _ _ = lp_M_holds_13 _ _ _ _ K f _ _ (iN (p + (L1.length + L2.length + 1)))
  rw [show f + (L1.length + L2.length + 1) = f + 1 + L2.length + L1.length from by omega, show p + (L1.length + L2.length + 1) = p + L1.length + L2.length + 1 from by omega]
  exact a1.trans (b1.trans s)
