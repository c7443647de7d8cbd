/-! Laws: how many clauses, their kinds, whether each holds by the facts; what may be gone. -/
abbrev Lz : Type := Nat × (Nat → Nat) × (Nat → (Nat → Int32) → Bool)
def HdC (en st lf rt : Nat → Int32) (k : Nat) (v : (Nat → Int32) → Bool) : Prop :=
  ∀ T : hs, (∀ i, i < 8 → gI T 76 i = en i) → (∀ i, i < 100 → gI T 77 i = st i) → (∀ i, i < 100 → gI T 78 i = lf i) → (∀ i, i < 100 → gI T 79 i = rt i) → f_A_holds_80 T (iN k) = some (bI (v fun i => gI T 80 i), T)
def fcs (m : Nat → Int32) (u v w : Nat) (i : Nat) : Int32 := if i = 0 then iN (qW m (v / 2)) else if i = 1 then iN (qW m (u / 2)) else if i = 2 then iN (qL m (v / 2)) else if i = 3 then iN (nDy m) else if i = 4 then iN w else iN (enn m u)
def HdM (c : Nat → Int32) (k : Nat) (v : (Nat → Int32) → Bool) : Prop :=
  ∀ (T : hs) (m : Nat → Int32), Tn T m → (∀ i, 141 ≤ i → i < 350 → m i = c i) → ∀ a b w : Nat, a < 2 * nSt m → b < 2 * nSt m → w ≤ 9 → ∃ U, f_M_holds T (c (341 + k)) (c (342 + k)) (iN a) (iN b) (iN w) = some (bI (v (fcs m a b w)), U) ∧ Fr (fun q => q = 200) T U
def LwC (g : Nat → Nat → Int32) (l : Lz) : Prop := g 74 5 = iN l.1 ∧ l.1 ≤ 8 ∧ ∀ k, k < l.1 → g 75 k = iN (l.2.1 k) ∧ l.2.1 k ≤ 5 ∧ HdC (g 76) (g 77) (g 78) (g 79) k (l.2.2 k) ∧ (∀ f f' : Nat → Int32, (∀ i, i < 6 → f i = f' i) → l.2.2 k f = l.2.2 k f')
def LwM (m : Nat → Int32) (l : Lz) : Prop := m 4 = iN l.1 ∧ l.1 ≤ 8 ∧ ∀ k, k < l.1 → m (350 + k) = iN (l.2.1 k) ∧ l.2.1 k ≤ 5 ∧ HdM m k (l.2.2 k)
def und (k a : Nat) : Bool := decide (a = 0) || decide (a = k) || (decide (a = 2) && decide (k = 3)) || (decide (a = 4) && decide (k = 5))
def alwR (l : Lz) (kd : Nat) (f : Nat → Int32) : Nat → Nat → Bool
  | 0, _ => false
  | k + 1, i => (und kd (l.2.1 i) && l.2.2 i f) || alwR l kd f k (i + 1)
def alw (l : Lz) (kd : Nat) (f : Nat → Int32) : Bool := if l.1 = 0 then decide (kd ≤ 3) else alwR l kd f l.1 0
/-- a way's turn that may be gone -/
def mgW (m : Nat → Int32) (l : Lz) (u v w : Nat) : Bool := decide (wkd m u v ≠ 0) && decide (w ≤ qW m (u / 2)) && decide (w ≤ qW m (v / 2)) && !(decide (wkd m u v = 3) && decide (0 < w)) && alw l (wkd m u v) (fcs m u v w)
def mgC (m : Nat → Int32) (l : Lz) (u v w : Nat) : Bool := cIs m u && cIs m v && mgW m l u v w
section
variable {S : hs} {m : Nat → Int32}
theorem TB.cg {g g' : Nat → Nat → Int32} (h : TB g m) (q : ∀ a, 34 ≤ a → a < 74 → ∀ i, g' a i = g a i) (hc : nCr m ≤ 12) (hs : nSt m ≤ 20) (hw : nWk m ≤ 4) : TB g' m := by
  obtain ⟨h1, h2, h3, h4, h5, h6, h7⟩ := h
  refine ⟨?_, ?_, ?_, ?_, fun i hi => ?_, fun j hj => ?_, fun i hi => ?_⟩
  · rw [q 34 (by omega) (by omega)]; exact h1
  · rw [q 34 (by omega) (by omega)]; exact h2
  · rw [q 34 (by omega) (by omega)]; exact h3
  · rw [q 34 (by omega) (by omega)]; exact h4
  · simp only [q (36 + i) (by omega) (by omega)]; exact h5 i hi
  · simp only [q (49 + j) (by omega) (by omega)]; exact h6 j hj
  · simp only [q (70 + i) (by omega) (by omega)]; exact h7 i hi
theorem Tc.fr {T : hs} {P : Nat → Prop} (h : Tc S m) (f : Fr P S T) (q : ∀ a, 34 ≤ a → a < 74 → ¬ P a) : Tc T m :=
  ⟨h.1, h.2.cg (fun a h1 h2 i => (f a (q a h1 h2)).1 i) h.1.c.2 h.1.s.2 h.1.w.2⟩
theorem Tn.fr {T : hs} {P : Nat → Prop} (h : Tn S m) (f : Fr P S T) (q : ¬ P 192) : Tn T m :=
  ⟨h.1, fun i hi => ((f 192 q).1 i).trans (h.2 i hi)⟩
theorem LwC.fr {T : hs} {P : Nat → Prop} {l : Lz} (h : LwC (fun a i => gI S a i) l) (f : Fr P S T) (q : ∀ a, 74 ≤ a → a < 80 → ¬ P a) : LwC (fun a i => gI T a i) l := by
  have e : ∀ a, 74 ≤ a → a < 80 → (fun i => gI T a i) = fun i => gI S a i := fun a h1 h2 => funext fun i => (f a (q a h1 h2)).1 i
  obtain ⟨h1, h2, h3⟩ := h
  refine ⟨?_, h2, fun k hk => ?_⟩
  · show gI T 74 5 = _
    rw [(f 74 (q 74 (by omega) (by omega))).1]; exact h1
  · obtain ⟨k1, k2, k3, k4⟩ := h3 k hk
    refine ⟨?_, k2, ?_, k4⟩
    · show gI T 75 k = _
      rw [(f 75 (q 75 (by omega) (by omega))).1]; exact k1
    · show HdC (fun i => gI T 76 i) (fun i => gI T 77 i) (fun i => gI T 78 i) (fun i => gI T 79 i) k _
      rw [e 76 (by omega) (by omega), e 77 (by omega) (by omega), e 78 (by omega) (by omega), e 79 (by omega) (by omega)]
      exact k3
def unI (x0 x1 : Int32) : Int32 := (if x1 = 0 then 1 else (if x1 = x0 then 1 else (if x1 = (2 : Int32) then (if x0 = (3 : Int32) then 1 else (if x1 = (4 : Int32) then (if x0 = (5 : Int32) then 1 else 0) else 0)) else (if x1 = (4 : Int32) then (if x0 = (5 : Int32) then 1 else 0) else 0))))
theorem unI_ok : ∀ k, k < 6 → ∀ a, a < 6 → unI (iN k) (iN a) = bI (und k a) := by decide +kernel
theorem pX_isUnder {k a : Nat} (hk : k ≤ 5) (ha : a ≤ 5) : f_X_isUnder S (iN k) (iN a) = some (bI (und k a), S) := by
  rw [← unI_ok k (by omega) a (by omega)]
  unfold f_X_isUnder unI
  split
  · rfl
  · split
    · rfl
    · split
      · split
        · rfl
        · split
          · split <;> rfl
          · rfl
      · split
        · split <;> rfl
        · rfl
def abI (x0 : Int32) : Int32 := (if x0 = 0 then -1 else (if x0 = (3 : Int32) then 2 else (if x0 = (5 : Int32) then 4 else 0)))
theorem pM_above (x : Int32) : f_M_above S x = some (abI x, S) := by
  unfold f_M_above abI
  split
  · rfl
  · split
    · rfl
    · split <;> rfl
def udO (x1 : Int32) : Nat → Int32 → Option Int32
  | 0, _ => none
  | n + 1, x => (if x < 0 then some (if x = x1 then 1 else 0) else (if x = x1 then some (if x = x1 then 1 else 0) else udO x1 n (abI x)))
theorem udO_ok : ∀ k, k < 6 → ∀ a, a < 6 → udO (iN a) 1000 (iN k) = some (bI (und k a)) := by decide +kernel
theorem pM_isUnder_l (a : Int32) : ∀ (n : Nat) (x r : Int32), udO a n x = some r → lp_M_isUnder_2 a (fun (S6 : hs) (y7 : Int32) => (if y7 = a then some ((1 : Int32), S6) else some ((0 : Int32), S6))) n S x = some (r, S) := by
  intro n
  induction n with
  | zero => intro x r h; cases h
  | succ n ih =>
    intro x r h
    rw [udO] at h
    rw [lp_M_isUnder_2]
    split at h
    · rename_i q
      rw [if_pos q]
      obtain rfl := some_e h
      split <;> rfl
    · rename_i q
      rw [if_neg q]
      split at h
      · rename_i q2
        obtain rfl := some_e h
        rw [if_pos q2, if_pos q2]
      · rename_i q2
        rw [if_neg q2, pM_above, bd_s]
        exact ih _ _ h
theorem pM_isUnder {k a : Nat} (hk : k ≤ 5) (ha : a ≤ 5) : f_M_isUnder S (iN k) (iN a) = some (bI (und k a), S) :=
  pM_isUnder_l _ _ _ _ (udO_ok k (by omega) a (by omega))
theorem pA_allows_l {l : Lz} (h : LwC (fun a i => gI S a i) l) {kd : Nat} (hkd : kd ≤ 5) : ∀ (k i n : Nat), i + k = l.1 → k < n → lp_A_allows_80_28 (iN kd) n S (iN i) = some (bI (alwR l kd (fun i => gI S 80 i) k i), S) := by
  obtain ⟨h1, h2, h3⟩ := h
  have h1 : gI S 74 5 = iN l.1 := h1
  intro k
  induction k with
  | zero =>
    intro i n hi hn
    obtain ⟨n, rfl⟩ : ∃ q, n = q + 1 := ⟨n - 1, by omega⟩
    rw [lp_A_allows_80_28, h1, if_pos ((iN_le (by omega) (by omega)).mpr (by omega))]; rfl
  | succ k ih =>
    intro i n hi hn
    obtain ⟨n, rfl⟩ : ∃ q, n = q + 1 := ⟨n - 1, by omega⟩
    obtain ⟨k1, k2, k3, -⟩ := h3 i (by omega)
    have k1 : gI S 75 i = iN (l.2.1 i) := k1
    rw [lp_A_allows_80_28, h1, if_neg (fun z => by have := (iN_le (by omega) (by omega)).mp z; omega), if_neg (le_n (a := 8) (b := (i : Int)) rfl (iN_i (by omega)) (by omega)), ck_of (iN_b (by omega) (by decide)), iN_c (by omega), k1, pX_isUnder hkd k2, bd_s, if_bI, iN_1, ih (i + 1) n (by omega) (by omega), alwR]
    cases und kd (l.2.1 i) with
    | false => rfl
    | true =>
      rw [bt_t, k3 S (fun _ _ => rfl) (fun _ _ => rfl) (fun _ _ => rfl) (fun _ _ => rfl), bd_s, if_bI]
      cases l.2.2 i (fun i => gI S 80 i) with
      | false => exact ih (i + 1) n (by omega) (by omega)
      | true => rfl
theorem lt31 {a : Nat} (h : a ≤ 8) : a < 2147483648 := by omega
theorem iN_z0 {a : Nat} (h : a < 2147483648) : (iN a = 0) = (a = 0) := propext (iN_eq (b := 0) h (by omega))
theorem pA_allows {l : Lz} (h : LwC (fun a i => gI S a i) l) {kd : Nat} (hk1 : 1 ≤ kd) (hkd : kd ≤ 5) : f_A_allows_80 S (iN kd) = some (bI (alw l kd (fun i => gI S 80 i)), S) := by
  unfold f_A_allows_80 alw
  have h1 : gI S 74 5 = iN l.1 := h.1
  rw [h1, if_z (lt31 h.2.1)]
  by_cases q : l.1 = 0
  · rw [if_pos q, if_pos q, show (2 : Int32) = iN 2 from rfl, pX_isUnder hkd (by omega), bd_s, if_bI]
    have : kd = 1 ∨ kd = 2 ∨ kd = 3 ∨ kd = 4 ∨ kd = 5 := by omega
    rcases this with rfl | rfl | rfl | rfl | rfl <;> rfl
  · rw [if_neg q, if_neg q]
    exact pA_allows_l h hkd l.1 0 1000 (by omega) (by have := h.2.1; omega)
theorem alwR_cg {l : Lz} {kd : Nat} {f f' : Nat → Int32} (he : ∀ k, k < l.1 → l.2.2 k f = l.2.2 k f') : ∀ (k i : Nat), i + k ≤ l.1 → alwR l kd f k i = alwR l kd f' k i := by
  intro k
  induction k with
  | zero => intro i _; rfl
  | succ k ih => intro i hi; rw [alwR, alwR, he i (by omega), ih (i + 1) (by omega)]
theorem alw_cg {g : Nat → Nat → Int32} {l : Lz} (h : LwC g l) {kd : Nat} {f f' : Nat → Int32} (he : ∀ i, i < 6 → f i = f' i) : alw l kd f = alw l kd f' := by
  unfold alw
  rw [alwR_cg (fun k hk => (h.2.2 k hk).2.2.2 f f' he) l.1 0 (by omega)]
theorem f80 {T : hs} {i j : Nat} {v : Int32} (q : ¬ i = j) : gI (uI T 80 j v) 80 i = gI T 80 i := gI_un q
set_option maxHeartbeats 4000000 in
theorem pT_mayGo {l : Lz} (h : Tc S m) (hl : LwC (fun a i => gI S a i) l) {u v w : Nat} (hu : u < 2 * nSt m) (hv : v < 2 * nSt m) (hw : w ≤ 9) : ∃ U, f_T_mayGo S (iN u) (iN v) (iN w) = some (bI (mgW m l u v w), U) ∧ Fr (fun q => q = 80) S U := by
  have hs := h.1.s.2
  have wu := (h.1.e (half_lt hu)).2.2.2.1.2
  have wv := (h.1.e (half_lt hv)).2.2.2.1.2
  have hk := wkd_l (m := m) u v
  have z0 : (0 : Int32) = iN 0 := rfl
  unfold f_T_mayGo mgW
  rw [pT_kindOf h hu hv, bd_s]
  by_cases q0 : wkd m u v = 0
  · rw [if_pos q0, if_pos rfl]
    exact ⟨S, by rw [decide_eq_false (fun z => z q0)]; rfl, Fr.rfl'⟩
  have qm : ¬ (if wkd m u v = 0 then (-1 : Int32) else iN (wkd m u v)) = -1 := by
    rw [if_neg q0]
    have : wkd m u v = 1 ∨ wkd m u v = 2 ∨ wkd m u v = 3 ∨ wkd m u v = 4 ∨ wkd m u v = 5 := by omega
    rcases this with e | e | e | e | e <;> rw [e] <;> decide
  rw [if_neg qm, if_neg q0, pT_wideOf h hu, bd_s, decide_eq_true q0, Bool.true_and]
  by_cases q1 : w ≤ qW m (u / 2)
  · rw [if_neg (fun z => by have := (iN_lt (by omega) (by omega)).mp z; omega), pT_wideOf h hv, bd_s, decide_eq_true q1, Bool.true_and]
    by_cases q2 : w ≤ qW m (v / 2)
    · rw [if_pos ((iN_le (by omega) (by omega)).mpr q2), decide_eq_true q2, Bool.true_and]
      have go : ∃ U, (bd (f_T_wideOf S (iN v)) fun r31 S32 => bd (f_T_wideOf (uI S32 80 0 r31) (iN u)) fun r34 S35 => bd (f_T_longOf (uI S35 80 1 r34) (iN v)) fun r37 S38 => bd (f_T_endOf (uI (uI (uI S38 80 2 r37) 80 3 (gI (uI S38 80 2 r37) 34 8)) 80 4 (iN w)) (iN u)) fun r40 S41 => bd (f_A_allows_80 (uI S41 80 5 r40) (iN (wkd m u v))) fun r43 S44 => ck (isB r43) (some (r43, S44))) = some (bI (alw l (wkd m u v) (fcs m u v w)), U) ∧ Fr (fun q => q = 80) S U := by
        have np : ∀ a, 34 ≤ a → a < 74 → ¬ (fun q => q = 80) a := fun a h1 h2 z => by have z : a = 80 := z; omega
        have f1 : Fr (fun q => q = 80) S (uI S 80 0 (iN (qW m (v / 2)))) := Fr.rfl'.uI rfl
        have f2 := f1.uI (a := 80) (i := 1) (v := iN (qW m (u / 2))) rfl
        have f3 := ((f2.uI (a := 80) (i := 2) (v := iN (qL m (v / 2))) rfl).uI (a := 80) (i := 3) (v := iN (nDy m)) rfl).uI (a := 80) (i := 4) (v := iN w) rfl
        have f4 := f3.uI (a := 80) (i := 5) (v := iN (enn m u)) rfl
        refine ⟨_, ?_, f4⟩
        rw [pT_wideOf h hv, bd_s, pT_wideOf (h.fr f1 np) hu, bd_s, pT_longOf (h.fr f2 np) hv, bd_s, gI_ua (by decide), gI_ua (by decide), gI_ua (by decide), h.d, pT_endOf (h.fr f3 np) hu, bd_s, pA_allows (hl.fr f4 (fun a h1 h2 z => by have z : a = 80 := z; omega)) (by omega) hk, bd_s, ck_of (bI_B _)]
        congr 3
        refine alw_cg hl (fun i hi => ?_)
        have : i = 0 ∨ i = 1 ∨ i = 2 ∨ i = 3 ∨ i = 4 ∨ i = 5 := by omega
        rcases this with rfl | rfl | rfl | rfl | rfl | rfl
        · rw [f80 (by decide), f80 (by decide), f80 (by decide), f80 (by decide), f80 (by decide), gI_us]; rfl
        · rw [f80 (by decide), f80 (by decide), f80 (by decide), f80 (by decide), gI_us]; rfl
        · rw [f80 (by decide), f80 (by decide), f80 (by decide), gI_us]; rfl
        · rw [f80 (by decide), f80 (by decide), gI_us]; rfl
        · rw [f80 (by decide), gI_us]; rfl
        · rw [gI_us]; rfl
      by_cases q3 : wkd m u v = 3
      · rw [if_pos (by rw [q3]; rfl), decide_eq_true q3, Bool.true_and]
        by_cases q4 : w = 0
        · subst q4
          rw [if_pos (by decide)]
          exact go
        · rw [if_neg (fun z => by have := (iN_le (b := 0) (by omega) (by omega)).mp z; omega), decide_eq_true (show 0 < w by omega)]
          exact ⟨S, rfl, Fr.rfl'⟩
      · rw [if_neg (fun z => by exact q3 ((iN_eq (b := 3) (by omega) (by omega)).mp z)), decide_eq_false q3]
        exact go
    · rw [if_neg (fun z => by exact q2 ((iN_le (by omega) (by omega)).mp z)), decide_eq_false q2]
      exact ⟨S, rfl, Fr.rfl'⟩
  · rw [if_pos ((iN_lt (by omega) (by omega)).mpr (by omega)), decide_eq_false q1]
    exact ⟨S, rfl, Fr.rfl'⟩
end
