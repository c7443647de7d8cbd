/-! Ways: turns that may be gone, found by both. -/
def LkF (T : hs) (m : Nat → Int32) : Prop := gI T 138 10 = iN (2 * nSt m) ∧ gI T 138 11 = iN (nCr m) ∧ (∀ v, v < 2 * nSt m → gI T 139 v = iN (bgn m v) ∧ gI T 140 v = iN (enn m v) ∧ gI T 141 v = iN (qL m (v / 2))) ∧ (∀ v, v < 64 → jb (gJ T 138 8) v = cIs m v) ∧ (∀ v, v < 64 → jb (gJ T 138 9) v = (wIs m v && !cIs m v))
/-- what the class's ways have found: turns by E -/
def Wy (T : hs) (m : Nat → Int32) (E : Nat → Nat → Bool) : Prop := LkF T m ∧ ∀ u, u < 2 * nSt m → ∀ v, v < 64 → jb (gJ T 142 u) v = E u v
def WzP (a : Nat) : Prop := a = 80 ∨ WyP a
section
variable {k : cx} {S S1 S2 T : hs} {m m' : Nat → Int32} {l : Lz}
theorem Lk.F (h : Lk S T m (2 * nSt m)) : LkF T m := by
  obtain ⟨f, c1, c2, e, j8, j9⟩ := h
  refine ⟨c1, c2, e, fun v hv => ?_, fun v hv => ?_⟩
  · rw [j8 v hv]
    by_cases z : v < 2 * nSt m
    · simp [z]
    · have : cIs m v = false := Bool.eq_false_iff.mpr (fun q => z (cIs_lt q))
      simp [this]
  · rw [j9 v hv]
    by_cases z : v < 2 * nSt m
    · simp [z]
    · have : wIs m v = false := Bool.eq_false_iff.mpr (fun q => z (wIs_lt q))
      simp [this]
theorem LkF.fr {P : Nat → Prop} (h : LkF S m) (f : Fr P S T) (q : ∀ a, 138 ≤ a → a < 142 → ¬ P a) : LkF T m := by
  obtain ⟨h1, h2, h3, h4, h5⟩ := h
  refine ⟨((f _ (q _ (by omega) (by omega))).1 _).trans h1, ((f _ (q _ (by omega) (by omega))).1 _).trans h2, fun v hv => ?_, fun v hv => ?_, fun v hv => ?_⟩
  · rw [(f 139 (q _ (by omega) (by omega))).1, (f 140 (q _ (by omega) (by omega))).1, (f 141 (q _ (by omega) (by omega))).1]; exact h3 v hv
  · rw [(f 138 (q _ (by omega) (by omega))).2]; exact h4 v hv
  · rw [(f 138 (q _ (by omega) (by omega))).2]; exact h5 v hv
theorem Wy.fr {P : Nat → Prop} {E : Nat → Nat → Bool} (h : Wy S m E) (f : Fr P S T) (q : ∀ a, 138 ≤ a → a < 143 → ¬ P a) : Wy T m E :=
  ⟨h.1.fr f (fun a h1 h2 => q a h1 (by omega)), fun u hu v hv => by rw [(f 142 (q _ (by omega) (by omega))).2]; exact h.2 u hu v hv⟩
/-- how the class tells one turn of its own -/
def PrB (m : Nat → Int32) (l : Lz) (x2 x3 : Int32) (E : Nat → Nat → Bool) : Prop :=
  (∀ u v, enn m u ≠ bgn m v → E u v = false) ∧ (∀ u v, ¬ v < 2 * nSt m → E u v = false) ∧
  ∀ (K : hs → Int64 → Int32 → Option (Int32 × hs)) (u v n : Nat) (T : hs) (acc : Int64), Tc T m → LwC (fun a i => gI T a i) l → u < 2 * nSt m → v < 2 * nSt m → ∃ U, (if x3 = (-1 : Int32) then bd (f_T_mayGo T (iN u) (iN v) x2) fun r14 S15 => (if r14 = 0 then lp_W_prepare_34_23 x2 x3 (iN u) K n S15 (acc ||| (0 : Int64)) (iN v + (1 : Int32)) else lp_W_prepare_34_23 x2 x3 (iN u) K n S15 (acc ||| ((1 : Int64) <<< ((iN v).toInt64 &&& 63))) (iN v + (1 : Int32))) else bd (f_T_isOneOf T (iN u) (iN v) x3) fun r10 S11 => (if r10 = 0 then lp_W_prepare_34_23 x2 x3 (iN u) K n S11 (acc ||| (0 : Int64)) (iN v + (1 : Int32)) else lp_W_prepare_34_23 x2 x3 (iN u) K n S11 (acc ||| ((1 : Int64) <<< ((iN v).toInt64 &&& 63))) (iN v + (1 : Int32)))) = lp_W_prepare_34_23 x2 x3 (iN u) K n U (acc ||| (if E u v = true then (1 : Int64) <<< ((iN v).toInt64 &&& 63) else 0)) (iN (v + 1)) ∧ Fr (fun q => q = 80) T U
theorem mgW_0 {u v w : Nat} (h : wkd m u v = 0) : mgW m l u v w = false := by unfold mgW; rw [h]; rfl
theorem wkd_e {u v : Nat} (h : enn m u ≠ bgn m v) : wkd m u v = 0 := if_neg (fun q => h q.2.2)
theorem wkd_v {u v : Nat} (h : ¬ v < 2 * nSt m) : wkd m u v = 0 := if_neg (fun q => h (wIs_lt q.2.1))
theorem PrB.law {w : Nat} (hw : w ≤ 9) : PrB m l (iN w) (-1) (fun u v => mgW m l u v w) := by
  refine ⟨fun u v h => mgW_0 (wkd_e h), fun u v h => mgW_0 (wkd_v h), fun K u v n T acc hc hl hu hv => ?_⟩
  obtain ⟨U, h1, h2⟩ := pT_mayGo hc hl hu hv hw
  refine ⟨U, ?_, h2⟩
  rw [if_pos rfl, h1, bd_s, if_bI, iN_1]
  cases hE : mgW m l u v w with
  | false => rw [bt_f, if_neg (show ¬ mgW m l u v w = true by rw [hE]; decide)]
  | true => rw [bt_t, if_pos (show mgW m l u v w = true from hE)]
/-- by bits that stand for a law -/
def obt (b kd : Nat) : Bool := if kd = 1 then decide (b % 2 = 1) else if kd = 2 ∨ kd = 3 then decide (b / 2 % 2 = 1) else if kd = 4 then decide (b / 4 % 2 = 1) else if kd = 5 then decide (b / 8 % 2 = 1) else false
def mgO (m : Nat → Int32) (b u v : Nat) : Bool := obt b (wkd m u v)
def oI (x r : Int32) : Int32 := (if r = (1 : Int32) then (if (x &&& (1 : Int32)) = 0 then 0 else 1) else (if r = (2 : Int32) then (if (x &&& (2 : Int32)) = 0 then 0 else 1) else (if r = (3 : Int32) then (if (x &&& (2 : Int32)) = 0 then 0 else 1) else (if r = (4 : Int32) then (if (x &&& (4 : Int32)) = 0 then 0 else 1) else (if r = (5 : Int32) then (if (x &&& (8 : Int32)) = 0 then 0 else 1) else 0)))))
theorem oI_ok : ∀ b, b < 16 → ∀ kd, kd < 6 → oI (iN b) (if kd = 0 then -1 else iN kd) = bI (obt b kd) := by decide +kernel
theorem pT_isOneOf (hc : Tc T m) {u v b : Nat} (hu : u < 2 * nSt m) (hv : v < 2 * nSt m) (hb : b < 16) : f_T_isOneOf T (iN u) (iN v) (iN b) = some (bI (mgO m b u v), T) := by
  have := wkd_l (m := m) u v
  unfold f_T_isOneOf mgO
  rw [pT_kindOf hc hu hv, bd_s, ← oI_ok b hb _ (show wkd m u v < 6 by omega)]
  generalize (if wkd m u v = 0 then (-1 : Int32) else iN (wkd m u v)) = r
  unfold oI
  split
  · split <;> rfl
  · split
    · split <;> rfl
    · split
      · split <;> rfl
      · split
        · split <;> rfl
        · split
          · split <;> rfl
          · rfl
theorem PrB.bits {b : Nat} (hb : b < 16) : PrB m l 0 (iN b) (fun u v => mgO m b u v) := by
  have nm : ¬ iN b = -1 := by
    have : ∀ b, b < 16 → ¬ iN b = -1 := by decide
    exact this b hb
  refine ⟨fun u v h => by show obt b (wkd m u v) = false; rw [wkd_e h]; rfl, fun u v h => by show obt b (wkd m u v) = false; rw [wkd_v h]; rfl, fun K u v n T acc hc hl hu hv => ?_⟩
  refine ⟨T, ?_, Fr.rfl'⟩
  rw [if_neg nm, pT_isOneOf hc hu hv hb, bd_s, if_bI, iN_1]
  cases hE : mgO m b u v with
  | false => rw [bt_f, if_neg (show ¬ mgO m b u v = true by rw [hE]; decide)]
  | true => rw [bt_t, if_pos (show mgO m b u v = true from hE)]
theorem prep_in {x2 x3 : Int32} {E : Nat → Nat → Bool} (hB : PrB m l x2 x3 E) {K : hs → Int64 → Int32 → Option (Int32 × hs)} {u : Nat} (hu : u < 2 * nSt m) : ∀ (r v n : Nat) (T : hs) (acc : Int64), LkF T m → Tc T m → LwC (fun a i => gI T a i) l → v + r = 2 * nSt m → r < n → ∃ (U : hs) (acc' : Int64), lp_W_prepare_34_23 x2 x3 (iN u) K n T acc (iN v) = K U acc' (iN (2 * nSt m)) ∧ Fr (fun q => q = 80) T U ∧ ∀ i, i < 64 → jb acc' i = (jb acc i || (decide (v ≤ i) && E u i)) := by
  intro r
  induction r with
  | zero =>
    intro v n T acc hL hc hl hv hn
    have hss := hc.1.s.2
    obtain ⟨n, rfl⟩ : ∃ q, n = q + 1 := ⟨n - 1, by omega⟩
    obtain rfl : v = 2 * nSt m := by omega
    refine ⟨T, acc, ?_, Fr.rfl', fun i hi => ?_⟩
    · rw [lp_W_prepare_34_23, hL.1, if_pos ((iN_le (by omega) (by omega)).mpr (by omega))]
    · by_cases z : 2 * nSt m ≤ i
      · rw [hB.2.1 u i (by omega)]; simp
      · simp [z]
  | succ r ih =>
    intro v n T acc hL hc hl hv hn
    have hss := hc.1.s.2
    have hcc := hc.1.c.2
    have b1 := enn_lt hc.1 hu
    have b2 := bgn_lt hc.1 (u := v) (by omega)
    obtain ⟨n, rfl⟩ : ∃ q, n = q + 1 := ⟨n - 1, by omega⟩
    rw [lp_W_prepare_34_23, hL.1, if_neg (fun z => by have := (iN_le (by omega) (by omega)).mp z; omega), ck_of (iN_b (by omega) (by decide)), ck_of (iN_b (by omega) (by decide)), iN_c (by omega), iN_c (by omega), (hL.2.2.1 u hu).2.1, (hL.2.2.1 v (by omega)).1]
    by_cases q : enn m u = bgn m v
    · rw [if_pos ((iN_eq (by omega) (by omega)).mpr q)]
      obtain ⟨V, h1, h2⟩ := hB.2.2 K u v n T acc hc hl hu (by omega)
      rw [h1]
      obtain ⟨U, acc', h3, h4, h5⟩ := ih (v + 1) n V _ (hL.fr h2 (fun a h1 h2 z => by have z : a = 80 := z; omega)) (hc.fr h2 (fun a h1 h2 z => by have z : a = 80 := z; omega)) (hl.fr h2 (fun a h1 h2 z => by have z : a = 80 := z; omega)) (by omega) (by omega)
      refine ⟨U, acc', h3, h2.trans h4, fun i hi => ?_⟩
      rw [h5 i hi, jb_or]
      by_cases z : i = v
      · subst z
        cases hE : E u i
        · simp [jb_0]
        · simp [jb_sh (show i < 64 by omega)]
      · have e1 : jb (if E u v = true then (1 : Int64) <<< ((iN v).toInt64 &&& 63) else 0) i = false := by
          split
          · rw [jb_sh (by omega)]; simp [z]
          · exact jb_0 i
        rw [e1]
        by_cases z2 : v ≤ i
        · have : v + 1 ≤ i := by omega
          simp [z2, this]
        · have : ¬ v + 1 ≤ i := by omega
          simp [z2, this]
    · rw [if_neg (fun z => q ((iN_eq (by omega) (by omega)).mp z)), iN_1]
      obtain ⟨U, acc', h3, h4, h5⟩ := ih (v + 1) n T acc hL hc hl (by omega) (by omega)
      refine ⟨U, acc', h3, h4, fun i hi => ?_⟩
      rw [h5 i hi]
      by_cases z : i = v
      · subst z
        rw [hB.1 u i q]; simp
      · by_cases z2 : v ≤ i
        · have : v + 1 ≤ i := by omega
          simp [z2, this]
        · have : ¬ v + 1 ≤ i := by omega
          simp [z2, this]
theorem prep_out {x2 x3 : Int32} {E : Nat → Nat → Bool} (hB : PrB m l x2 x3 E) : ∀ (r u n : Nat) (T : hs), LkF T m → Tc T m → LwC (fun a i => gI T a i) l → (∀ w, w < u → ∀ v, v < 64 → jb (gJ T 142 w) v = E w v) → u + r = 2 * nSt m → r < n → ∃ U, lp_W_prepare_34_8 x2 x3 n T (iN u) = some (0, U) ∧ Fr (fun q => q = 80 ∨ q = 142) T U ∧ Wy U m E := by
  intro r
  induction r with
  | zero =>
    intro u n T hL hc hl hE hu hn
    have hss := hc.1.s.2
    obtain ⟨n, rfl⟩ : ∃ q, n = q + 1 := ⟨n - 1, by omega⟩
    obtain rfl : u = 2 * nSt m := by omega
    exact ⟨T, by rw [lp_W_prepare_34_8, hL.1, if_pos ((iN_le (by omega) (by omega)).mpr (by omega))], Fr.rfl', hL, hE⟩
  | succ r ih =>
    intro u n T hL hc hl hE hu hn
    have hss := hc.1.s.2
    obtain ⟨n, rfl⟩ : ∃ q, n = q + 1 := ⟨n - 1, by omega⟩
    obtain ⟨V, acc, h1, h2, h3⟩ := prep_in hB (K := fun (S18 : hs) (y19 : Int64) (y20 : Int32) => ck (inb (iN u) 40) (lp_W_prepare_34_8 x2 x3 n (uJ S18 142 (iN u).toNatClampNeg y19) (iN u + (1 : Int32)))) (u := u) (by omega) (2 * nSt m) 0 1000 T 0 hL hc hl (by omega) (by omega)
    have f2 : Fr (fun q => q = 80 ∨ q = 142) T (uJ V 142 u acc) := (h2.mono (fun _ z => Or.inl z)).uJ (Or.inr rfl)
    obtain ⟨U, h4, h5, h6⟩ := ih (u + 1) n (uJ V 142 u acc) (hL.fr f2 (fun a h1 h2 z => by have z : a = 80 ∨ a = 142 := z; omega)) (hc.fr f2 (fun a h1 h2 z => by have z : a = 80 ∨ a = 142 := z; omega)) (hl.fr f2 (fun a h1 h2 z => by have z : a = 80 ∨ a = 142 := z; omega)) (fun w hw v hv => by
      rw [gJ_u]
      by_cases z : w = u
      · rw [if_pos ⟨rfl, z⟩, h3 v hv, jb_0, z]; simp
      · rw [if_neg (fun y => z y.2), (h2 142 (by decide)).2]; exact hE w (by omega) v hv) (by omega) (by omega)
    refine ⟨U, ?_, f2.trans h5, h6⟩
    rw [lp_W_prepare_34_8, hL.1, if_neg (fun z => by have := (iN_le (by omega) (by omega)).mp z; omega)]
    refine Eq.trans h1 ?_
    show ck (inb (iN u) 40) _ = _
    rw [ck_of (iN_b (by omega) (by decide)), iN_c (by omega), iN_1]
    exact h4
theorem pW_prepare {x2 x3 : Int32} {E : Nat → Nat → Bool} (hB : PrB m l x2 x3 E) (hc : Tc S m) (hl : LwC (fun a i => gI S a i) l) : ∃ U, f_W_prepare_34 S x2 x3 = some (0, U) ∧ Fr WzP S U ∧ Wy U m E := by
  have hss := hc.1.s.2
  obtain ⟨T, h1, h2⟩ := pW_look hc
  have f1 := h2.1
  obtain ⟨U, h3, h4, h5⟩ := prep_out hB (2 * nSt m) 0 1000 T h2.F (hc.fr f1 (fun a h1 h2 => nWy (by omega))) (hl.fr f1 (fun a h1 h2 => nWy (by omega))) (fun w hw => by omega) (by omega) (by omega)
  refine ⟨U, ?_, (f1.mono (fun _ z => Or.inr z)).trans (h4.mono (fun a z => z.elim Or.inl (fun z => Or.inr (by unfold WyP; omega)))), h5⟩
  unfold f_W_prepare_34
  rw [h1, bd_s]
  exact h3
end
