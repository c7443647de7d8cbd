/-! meet. -/
def mx1 (a b : Nat) : Nat := if a < b then b else a
def bV (V : Nat → Nat) (D : Nat) : Option Nat → Nat
  | none => D
  | some p => V p
def bst1 (V : Nat → Nat) : Nat → Nat → Option Nat → Option Nat
  | 0, _, b => b
  | r + 1, c, b => bst1 V r (c + 1) (if bV V 1000000 b ≤ V c then b else some c)
section
variable {k : cx} {S S1 S2 T : hs} {m m' : Nat → Int32} {l : Lz} {E : Nat → Nat → Bool}
theorem pMax {a b : Nat} (ha : a < 2147483648) (hb : b < 2147483648) : f_Ma_max S (iN a) (iN b) = some (iN (mx1 a b), S) := by
  unfold f_Ma_max mx1
  by_cases q : a < b
  · rw [if_pos ((iN_lt ha hb).mpr q), if_pos q]
  · rw [if_neg (fun z => q ((iN_lt ha hb).mp z)), if_neg q]
/-- the class's number against the model's -/
def CV (m : Nat → Int32) (E : Nat → Nat → Bool) (u c d : Nat) : Prop := d ≤ 1000000 ∧ ∀ r, FarIs (eC E (cIs m)) m u (iN c) r → (d = r ∧ r ≤ 720) ∨ (d = 1000000 ∧ r = 100000)
theorem cv_of {u c : Nat} (hM : Ms T m E (tgC m (iN c))) (hu : u < 2 * nSt m) : CV m E u c (if iN (enn m u) = iN c then 0 else dF T u) := by
  refine ⟨?_, fun r hF => ?_⟩
  · have := (hM.1 u hu).2
    split <;> omega
  · by_cases cu : cIs m u = true
    · have := far_cmp hM hF cu
      by_cases q : iN (enn m u) = iN c
      · rw [if_pos q]
        have h0 := hM.2.2.1 u hu ⟨cu, q⟩
        rw [h0] at this
        exact this
      · rw [if_neg q]; exact this
    · by_cases q : iN (enn m u) = iN c
      · rw [if_pos q]
        have := hF.2.1 u 0 WS.rfl' q
        exact Or.inl ⟨by omega, by omega⟩
      · rw [if_neg q]
        refine Or.inr ⟨?_, ?_⟩
        · have hb := (hM.1 u hu).2
          rcases Nat.lt_or_ge (dF T u) 1000000 with z | z
          · exact absurd (hM.2.1 u hu z).2.1 cu
          · omega
        · have hb := hF.1
          rcases Nat.lt_or_ge r 100000 with z | z
          · obtain ⟨t, t1, n, t2⟩ := hF.2.2 z
            cases n with
            | zero => obtain ⟨e, -⟩ := t2; subst e; exact absurd t1 q
            | succ n => obtain ⟨x, w', e, -⟩ := t2; exact absurd (eC_c e).1 cu
          · omega
def P45 (q : Nat) : Prop := q = 144 ∨ q = 145
theorem p45S (f : Fr P45 S T) : Fr Scr S T := f.mono (fun a z => by unfold P45 at z; unfold Scr; omega)
theorem Wy.p45 (h : Wy S m E) (f : Fr P45 S T) : Wy T m E := h.fr f (fun a h1 h2 z => by unfold P45 at z; omega)
theorem n45 {a : Nat} (h : a ≠ 144 ∧ a ≠ 145) : ¬ P45 a := fun z => by unfold P45 at z; omega
theorem wrg_l (v0 : VM m) {u : Nat} (hu : u < 2 * nSt m) {o : Nat → Nat} (ho : ∀ x, o x ≤ 1000000) : ∀ (r c n : Nat) (T : hs) (A : Nat → Nat), Wy T m E → (∀ x, x < c → CV m E u x (A x) ∧ gI T 145 x = iN (mx1 (o x) (A x))) → (∀ x, c ≤ x → x < nCr m → gI T 145 x = iN (o x)) → c + r = nCr m → r < n → ∃ (U : hs) (A' : Nat → Nat), lp_W_raiseGreater_2 (iN u) n T (iN c) = some (0, U) ∧ Fr P45 T U ∧ ∀ x, x < nCr m → CV m E u x (A' x) ∧ gI U 145 x = iN (mx1 (o x) (A' x)) := by
  have hss := v0.s.2
  have hcc := v0.c.2
  intro r
  induction r with
  | zero =>
    intro c n T A hW h1 h2 hc hn
    obtain ⟨n, rfl⟩ : ∃ q, n = q + 1 := ⟨n - 1, by omega⟩
    obtain rfl : c = nCr m := by omega
    exact ⟨T, A, by rw [lp_W_raiseGreater_2, hW.1.2.1, if_pos ((iN_le (by omega) (by omega)).mpr (by omega))], Fr.rfl', h1⟩
  | succ r ih =>
    intro c n T A hW h1 h2 hc hn
    obtain ⟨n, rfl⟩ : ∃ q, n = q + 1 := ⟨n - 1, by omega⟩
    obtain ⟨V, b1, b2, b3⟩ := pW_measureTo hW v0 (iN c)
    have hV := hW.f144 b2
    have cv := cv_of b3 hu
    have e145 : gI V 145 c = iN (o c) := ((b2 145 (by decide)).1 c).trans (h2 c (by omega) (by omega))
    have lf := pW_leftFrom hV v0 b3.1 hu
    have go : ∀ d : Nat, CV m E u c d → ∃ (U : hs) (A' : Nat → Nat), lp_W_raiseGreater_2 (iN u) n (uI V 145 c (iN (mx1 (o c) d))) (iN (c + 1)) = some (0, U) ∧ Fr P45 T U ∧ ∀ x, x < nCr m → CV m E u x (A' x) ∧ gI U 145 x = iN (mx1 (o x) (A' x)) := by
      intro d hd
      have f1 : Fr P45 T (uI V 145 c (iN (mx1 (o c) d))) := (b2.mono (fun a z => Or.inl z)).uI (Or.inr rfl)
      obtain ⟨U, A', a1, a2, a3⟩ := ih (c + 1) n (uI V 145 c (iN (mx1 (o c) d))) (fun x => if x = c then d else A x) (hW.p45 f1) (fun x hx => by
        rw [gI_u]
        by_cases z : x = c
        · subst z; rw [if_pos rfl, if_pos ⟨rfl, rfl⟩]; exact ⟨hd, rfl⟩
        · rw [if_neg z, if_neg (fun y => z y.2), (b2 145 (by decide)).1 x]; exact h1 x (by omega)) (fun x hx hx2 => by
        rw [gI_un (by omega), (b2 145 (by decide)).1 x]; exact h2 x (by omega) hx2) (by omega) (by omega)
      exact ⟨U, A', a1, f1.trans a2, a3⟩
    have h6 := ho c
    have h7 := (b3.1 u hu).2
    rw [lp_W_raiseGreater_2, hW.1.2.1, if_neg (fun z => by have := (iN_le (by omega) (by omega)).mp z; omega), b1, bd_s, if_neg (l0 (by omega)), hV.1.1, if_neg (fun z => by have := (iN_le (by omega) (by omega)).mp z; omega), ck_of (iN_b (by omega) (by decide)), iN_c (by omega), (hV.1.2.2.1 u hu).2.1]
    by_cases q : iN (enn m u) = iN c
    · rw [if_pos q] at cv
      rw [if_pos q, ck_of (iN_b (by omega) (by decide)), iN_c (by omega), e145, show (0 : Int32) = iN 0 from rfl, pMax (by omega) (by omega), bd_s, iN_1]
      exact go 0 cv
    · rw [if_neg q] at cv
      rw [if_neg q, ck_of (iN_b (by omega) (by decide)), iN_c (by omega), lf, bd_s, e145, pMax (by omega) (by omega), bd_s, iN_1]
      exact go _ cv
theorem wmp_l (hW : Wy T m E) (v0 : VM m) {V : Nat → Nat} (hv : ∀ x, x < nCr m → gI T 145 x = iN (V x) ∧ V x ≤ 1000000) : ∀ (r c n : Nat) (b : Option Nat), c + r = nCr m → r < n → (∀ p, b = some p → p < nCr m) → lp_W_meetingPlace_8 n T (iN (bV V 1000000 b)) (oC (-3) b) (iN c) = some (oC (-3) (bst1 V r c b), T) ∧ ∀ p, bst1 V r c b = some p → p < nCr m := by
  have hcc := v0.c.2
  intro r
  induction r with
  | zero =>
    intro c n b hc hn hb
    obtain ⟨n, rfl⟩ : ∃ q, n = q + 1 := ⟨n - 1, by omega⟩
    obtain rfl : c = nCr m := by omega
    exact ⟨by rw [lp_W_meetingPlace_8, hW.1.2.1, if_pos ((iN_le (by omega) (by omega)).mpr (by omega))]; rfl, hb⟩
  | succ r ih =>
    intro c n b hc hn hb
    obtain ⟨n, rfl⟩ : ∃ q, n = q + 1 := ⟨n - 1, by omega⟩
    obtain ⟨e1, e2⟩ := hv c (by omega)
    have e3 : bV V 1000000 b ≤ 1000000 := by
      cases b with
      | none => exact Nat.le_refl _
      | some p => exact (hv p (hb p rfl)).2
    rw [lp_W_meetingPlace_8, hW.1.2.1, if_neg (fun z => by have := (iN_le (by omega) (by omega)).mp z; omega), ck_of (iN_b (by omega) (by decide)), iN_c (by omega), e1, bst1, iN_1]
    by_cases q : bV V 1000000 b ≤ V c
    · rw [if_pos ((iN_le (by omega) (by omega)).mpr q), if_pos q]
      exact ih (c + 1) n b (by omega) (by omega) hb
    · rw [if_neg (fun z => q ((iN_le (by omega) (by omega)).mp z)), if_neg q]
      exact ih (c + 1) n (some c) (by omega) (by omega) (fun p hp => by cases hp; omega)
def P24 (q : Nat) : Prop := q = 202 ∨ q = 204
theorem n24 {a : Nat} (h : a ≠ 202 ∧ a ≠ 204) : ¬ P24 a := fun z => by unfold P24 at z; omega
theorem p24S (f : Fr P24 S T) : Fr Scr S T := f.mono (fun a z => by unfold P24 at z; unfold Scr; omega)
theorem pM_farBy {i : Nat} (hi : i < nWk m) (c : Int32) (hT : Tn T m) (hO : On T (eC E (cIs m))) : ∃ U r, f_M_farBy T (iN i) c = some (iN r, U) ∧ Fr (fun q => q = 202) T U ∧ FarIs (eC E (cIs m)) m (qC m i) c r := by
  obtain ⟨U, r, b1, b2, b3⟩ := pM_farOf (fun u v g => eC_lt g) (hT.1.k hi).1.2 c hT hO
  exact ⟨U, r, by unfold f_M_farBy; rw [wkI0 hT hi, bd_s, b1, bd_s], b2, b3⟩
theorem mm48_l {i : Nat} (hi : i < nWk m) {x2 x3 : Int32} {K : hs → Int32 → Option (Int32 × hs)} : ∀ (r c n : Nat) (T : hs), Tn T m → On T (eC E (cIs m)) → (∀ x, x < c → ∃ b, FarIs (eC E (cIs m)) m (qC m i) (iN x) b ∧ gI T 204 x = iN b) → c + r = nCr m → r < n → ∃ U, lp_M_meet_48 (iN i) x2 x3 K n T (iN c) = K U (iN (nCr m)) ∧ Fr P24 T U ∧ ∀ x, x < nCr m → ∃ b, FarIs (eC E (cIs m)) m (qC m i) (iN x) b ∧ gI U 204 x = iN b := by
  intro r
  induction r with
  | zero =>
    intro c n T hT hO h1 hc hn
    obtain ⟨n, rfl⟩ : ∃ q, n = q + 1 := ⟨n - 1, by omega⟩
    obtain rfl : c = nCr m := by omega
    have hcc := hT.1.c.2
    exact ⟨T, by rw [lp_M_meet_48, hT.c, if_pos ((iN_le (by omega) (by omega)).mpr (by omega))], Fr.rfl', h1⟩
  | succ r ih =>
    intro c n T hT hO h1 hc hn
    obtain ⟨n, rfl⟩ : ∃ q, n = q + 1 := ⟨n - 1, by omega⟩
    have hcc := hT.1.c.2
    obtain ⟨V, b, b1, b2, b3⟩ := pM_farBy hi (iN c) hT hO
    have f1 : Fr P24 T (uI V 204 c (iN b)) := (b2.mono (fun a z => Or.inl z)).uI (Or.inr rfl)
    obtain ⟨U, a1, a2, a3⟩ := ih (c + 1) n (uI V 204 c (iN b)) (hT.fr f1 (n24 (by omega))) (hO.fr f1 (n24 (by omega))) (fun x hx => by
      rw [gI_u]
      by_cases z : x = c
      · subst z; rw [if_pos ⟨rfl, rfl⟩]; exact ⟨b, b3, rfl⟩
      · rw [if_neg (fun y => z y.2), (b2 204 (n202 (by decide))).1 x]; exact h1 x (by omega)) (by omega) (by omega)
    refine ⟨U, ?_, f1.trans a2, a3⟩
    rw [lp_M_meet_48, hT.c, if_neg (fun z => by have := (iN_le (by omega) (by omega)).mp z; omega), b1, bd_s, ck_of (iN_b (by omega) (by decide)), iN_c (by omega), iN_1]
    exact a1
theorem mm101_l {i2 u1 : Nat} (hi : i2 < nWk m) {E1 : Nat → Nat → Bool} {x3 : Int32} {K : hs → Int32 → Int32 → Int32 → Option (Int32 × hs)} {V A1 A2 : Nat → Nat} (hA : ∀ x, x < nCr m → CV m E1 u1 x (A1 x) ∧ CV m E (qC m i2) x (A2 x) ∧ V x = mx1 (A1 x) (A2 x)) : ∀ (r c n : Nat) (b : Option Nat) (T : hs), Tn T m → On T (eC E (cIs m)) → (∀ x, x < nCr m → ∃ b, FarIs (eC E1 (cIs m)) m u1 (iN x) b ∧ gI T 204 x = iN b) → c + r = nCr m → r < n → (∀ p, b = some p → p < nCr m ∧ V p ≤ 720) → ∃ U, lp_M_meet_101 (iN i2) x3 K n T (oC (-1) b) (iN (bV V 100000 b)) (iN c) = K U (oC (-1) (bst1 V r c b)) (iN (bV V 100000 (bst1 V r c b))) (iN (nCr m)) ∧ Fr (fun q => q = 202) T U := by
  intro r
  induction r with
  | zero =>
    intro c n b T hT hO h1 hc hn hb
    obtain ⟨n, rfl⟩ : ∃ q, n = q + 1 := ⟨n - 1, by omega⟩
    obtain rfl : c = nCr m := by omega
    have hcc := hT.1.c.2
    exact ⟨T, by rw [lp_M_meet_101, hT.c, if_pos ((iN_le (by omega) (by omega)).mpr (by omega))]; rfl, Fr.rfl'⟩
  | succ r ih =>
    intro c n b T hT hO h1 hc hn hb
    obtain ⟨n, rfl⟩ : ∃ q, n = q + 1 := ⟨n - 1, by omega⟩
    have hcc := hT.1.c.2
    obtain ⟨W, f2, b1, b2, b3⟩ := pM_farBy hi (iN c) hT hO
    obtain ⟨f1, g1, g2⟩ := h1 c (by omega)
    obtain ⟨⟨p1, p2⟩, ⟨q1, q2⟩, eV⟩ := hA c (by omega)
    have c1 := p2 f1 g1
    have c2 := q2 f2 b3
    have hcm : (V c = mx1 f1 f2 ∧ V c ≤ 720) ∨ (V c = 1000000 ∧ mx1 f1 f2 = 100000) := by
      rw [eV]; unfold mx1
      split <;> split <;> omega
    have hf1 : f1 < 2147483648 := by omega
    have hf2 : f2 < 2147483648 := by omega
    have e5 : bV V 1000000 b ≤ 1000000 ∧ bV V 100000 b ≤ 100000 ∧ ((bV V 1000000 b = bV V 100000 b ∧ bV V 100000 b ≤ 720) ∨ (bV V 1000000 b = 1000000 ∧ bV V 100000 b = 100000)) := by
      cases b with
      | none => exact ⟨Nat.le_refl _, Nat.le_refl _, Or.inr ⟨rfl, rfl⟩⟩
      | some p => have := (hb p rfl).2; exact ⟨by show V p ≤ _; omega, by show V p ≤ _; omega, Or.inl ⟨rfl, this⟩⟩
    have go : ∀ b' : Option Nat, (∀ p, b' = some p → p < nCr m ∧ V p ≤ 720) → ∃ U, lp_M_meet_101 (iN i2) x3 K n W (oC (-1) b') (iN (bV V 100000 b')) (iN (c + 1)) = K U (oC (-1) (bst1 V r (c + 1) b')) (iN (bV V 100000 (bst1 V r (c + 1) b'))) (iN (nCr m)) ∧ Fr (fun q => q = 202) T U := fun b' hb' => by
      obtain ⟨U, a1, a2⟩ := ih (c + 1) n b' W (hT.fr b2 (n202 (by decide))) (hO.fr b2 (n202 (by decide))) (fun x hx => by rw [(b2 204 (n202 (by decide))).1 x]; exact h1 x hx) (by omega) (by omega) hb'
      exact ⟨U, a1, b2.trans a2⟩
    rw [lp_M_meet_101, hT.c, if_neg (fun z => by have := (iN_le (by omega) (by omega)).mp z; omega), ck_of (iN_b (by omega) (by decide)), b1, bd_s, iN_c (by omega), g2, pMax hf1 hf2, bd_s, bst1, iN_1]
    by_cases q : bV V 1000000 b ≤ V c
    · rw [if_pos ((iN_le (by omega) (by unfold mx1; split <;> omega)).mpr (by omega)), if_pos q]
      exact go b hb
    · rw [if_neg (fun z => by have := (iN_le (by omega) (by unfold mx1; split <;> omega)).mp z; omega), if_neg q]
      have hv : mx1 f1 f2 = V c := by omega
      rw [hv]
      exact go (some c) (fun p hp => by cases hp; exact ⟨by omega, by omega⟩)
theorem fil_l : ∀ (r c n : Nat) (T : hs), (∀ x, x < c → gI T 145 x = 0) → c + r = 12 → r < n → ∃ U, lp_Ar_fill_aIIV_145_5 (0 : Int32) (12 : Int32) n T (iN c) = some (0, U) ∧ Fr P45 T U ∧ ∀ x, x < 12 → gI U 145 x = 0 := by
  intro r
  induction r with
  | zero =>
    intro c n T h1 hc hn
    obtain ⟨n, rfl⟩ : ∃ q, n = q + 1 := ⟨n - 1, by omega⟩
    obtain rfl : c = 12 := by omega
    exact ⟨T, by rw [lp_Ar_fill_aIIV_145_5, if_pos (by decide)], Fr.rfl', h1⟩
  | succ r ih =>
    intro c n T h1 hc hn
    obtain ⟨n, rfl⟩ : ∃ q, n = q + 1 := ⟨n - 1, by omega⟩
    have f1 : Fr P45 T (uI T 145 c 0) := Fr.rfl'.uI (Or.inr rfl)
    obtain ⟨U, a1, a2, a3⟩ := ih (c + 1) n (uI T 145 c 0) (fun x hx => by
      rw [gI_u]
      by_cases z : x = c
      · rw [if_pos ⟨rfl, z⟩]
      · rw [if_neg (fun y => z y.2)]; exact h1 x (by omega)) (by omega) (by omega)
    refine ⟨U, ?_, f1.trans a2, a3⟩
    rw [lp_Ar_fill_aIIV_145_5, if_neg (le_n (b := (c : Int)) (a := 12) rfl (iN_i (by omega)) (by omega)), ck_of (iN_b (by omega) (by decide)), iN_c (by omega), iN_1]
    exact a1
theorem mx0 (a : Nat) : mx1 0 a = a := by unfold mx1; split <;> omega
theorem bst_f {V : Nat → Nat} (h : ∀ x, x < nCr m → V x ≤ 720 ∨ V x = 1000000) : ∀ (r c : Nat) (b : Option Nat), c + r = nCr m → (∀ p, b = some p → p < nCr m ∧ V p ≤ 720) → ∀ p, bst1 V r c b = some p → p < nCr m ∧ V p ≤ 720 := by
  intro r
  induction r with
  | zero => intro c b hc hb p hp; exact hb p hp
  | succ r ih =>
    intro c b hc hb p hp
    refine ih (c + 1) _ (by omega) (fun y hy => ?_) p hp
    by_cases q : bV V 1000000 b ≤ V c
    · rw [if_pos q] at hy; exact hb y hy
    · rw [if_neg q] at hy
      cases hy
      have h5 : bV V 1000000 b ≤ 1000000 := by
        cases b with
        | none => exact Nat.le_refl _
        | some p => have := (hb p rfl).2; show V p ≤ _; omega
      have := h c (by omega)
      exact ⟨by omega, by omega⟩
theorem hwk_y (h : Tc T m) {x : Int32} (q : 0 ≤ x.toInt ∧ x.toInt < (nWk m : Int)) : f_T_hasWalker T x = some (1, T) := by rw [pT_hasWalker h, decide_eq_true q]; rfl
theorem hwk_n (h : Tc T m) {x : Int32} (q : ¬ (0 ≤ x.toInt ∧ x.toInt < (nWk m : Int))) : f_T_hasWalker T x = some (0, T) := by rw [pT_hasWalker h, decide_eq_false q]; rfl
theorem mwk_y (h : Tn T m) {x : Int32} (q : 0 ≤ x.toInt ∧ x.toInt < (nWk m : Int)) : f_M_is T x (3 : Int32) = some (1, T) := by
  have := pM_is (k := 3) (n := nWk m) (by omega) (by have := h.1.w.2; omega) h.w x
  rw [decide_eq_true q] at this
  exact this
theorem mwk_n (h : Tn T m) {x : Int32} (q : ¬ (0 ≤ x.toInt ∧ x.toInt < (nWk m : Int))) : f_M_is T x (3 : Int32) = some (0, T) := by
  have := pM_is (k := 3) (n := nWk m) (by omega) (by have := h.1.w.2; omega) h.w x
  rw [decide_eq_false q] at this
  exact this
theorem q_meet (h : Inv k S) (x y z : Int32) : Q2 k S (f_X_meet S x y z) (fun T => f_M_meet T x y z) := by
  obtain ⟨m, l, ht⟩ := h.1
  have hc := ht.1
  have hn := ht.2.1
  have v0 := hc.1
  have hss := v0.s.2
  have hcc := v0.c.2
  have hww := v0.w.2
  by_cases q : 0 ≤ x.toInt ∧ x.toInt < (nWk m : Int)
  · by_cases q' : 0 ≤ y.toInt ∧ y.toInt < (nWk m : Int)
    · by_cases qe : x = y
      · refine Q2.same (r := -1) h ?_ ?_
        · unfold f_X_meet
          rw [hwk_y hc q, bd_s, if_neg (by decide), hwk_y hc q', bd_s, if_neg (by decide), if_pos qe]
        · show f_M_meet S _ _ _ = _
          unfold f_M_meet
          rw [mwk_y hn q, bd_s, if_neg (by decide), mwk_y hn q', bd_s, if_neg (by decide), if_pos qe]
      · by_cases qz : 0 ≤ z.toInt ∧ z.toInt ≤ 1
        · obtain ⟨a, rfl, ha, ea⟩ := iN_of q.1
          obtain ⟨b, rfl, hb, eb⟩ := iN_of q'.1
          have ha4 : a < nWk m := by omega
          have hb4 : b < nWk m := by omega
          have ka := v0.k ha4
          have kb := v0.k hb4
          obtain ⟨T0, f1, f2, f3⟩ := fil_l 12 0 1000 S (fun x hx => by omega) (by omega) (by omega)
          have f1 : f_Ar_fill_aIIV_145 S (0 : Int32) = some (0, T0) := f1
          have g0 := p45S f2
          have n1 : ∀ a, a = 145 ∨ a < 80 → ¬ WzP a := fun a h1 h2 => by unfold WzP WyP at h2; omega
          obtain ⟨T1, p1, p2', p3⟩ := pW_prepare (PrB.law (m := m) (l := l) (w := qD m a) ka.2.2) (ht.fr g0).1 (ht.fr g0).2.2.1
          have g1 := g0.trans (p2'.mono wzScr)
          obtain ⟨T2, A1, r1, r2, r3⟩ := wrg_l (E := fun u v => mgW m l u v (qD m a)) v0 ka.1.2 (o := fun _ => 0) (fun _ => by omega) (nCr m) 0 1000 T1 (fun _ => 0) p3 (fun x hx => by omega) (fun x _ hx => by rw [(p2' 145 (n1 _ (Or.inl rfl))).1 x]; exact f3 x (by omega)) (by omega) (by omega)
          have r1 : f_W_raiseGreater T1 (iN (qC m a)) = some (0, T2) := r1
          have g2 := g1.trans (p45S r2)
          obtain ⟨T3, s1, s2, s3⟩ := pW_prepare (PrB.law (m := m) (l := l) (w := qD m b) kb.2.2) (ht.fr g2).1 (ht.fr g2).2.2.1
          have g3 := g2.trans (s2.mono wzScr)
          obtain ⟨T4, A2, t1, t2, t3⟩ := wrg_l (E := fun u v => mgW m l u v (qD m b)) v0 kb.1.2 (o := fun x => if x < nCr m then A1 x else 0) (fun x => by
            show (if x < nCr m then A1 x else 0) ≤ _
            split
            · rename_i hx; exact (r3 x hx).1.1
            · omega) (nCr m) 0 1000 T3 (fun _ => 0) s3 (fun x hx => by omega) (fun x _ hx => by
            rw [(s2 145 (n1 _ (Or.inl rfl))).1 x, (r3 x hx).2, mx0]
            show _ = iN (if x < nCr m then A1 x else 0)
            rw [if_pos hx]) (by omega) (by omega)
          have t1 : f_W_raiseGreater T3 (iN (qC m b)) = some (0, T4) := t1
          have g4 := g3.trans (p45S t2)
          have ht4 := ht.fr g4
          have w4 := s3.p45 t2
          have hV : ∀ x, x < nCr m → gI T4 145 x = iN (mx1 (A1 x) (A2 x)) := fun x hx => by
            have := (t3 x hx).2
            have e : (if x < nCr m then A1 x else 0) = A1 x := if_pos hx
            rw [e] at this
            exact this
          have hb1 : ∀ x, x < nCr m → mx1 (A1 x) (A2 x) ≤ 1000000 := fun x hx => by
            have := (r3 x hx).1.1
            have := (t3 x hx).1.1
            unfold mx1; split <;> omega
          obtain ⟨m1, m2⟩ := wmp_l w4 v0 (V := fun x => mx1 (A1 x) (A2 x)) (fun x hx => ⟨hV x hx, hb1 x hx⟩) (nCr m) 0 1000 none (by omega) (by omega) (fun p h => by cases h)
          have m1 : f_W_meetingPlace T4 = some (oC (-3) (bst1 (fun x => mx1 (A1 x) (A2 x)) (nCr m) 0 none), T4) := m1
          obtain ⟨M1, o1, o2, o3, o4⟩ := onto2 (fr3 h g4) ht4 (w := qD m a) ka.2.2
          obtain ⟨M2, u1, u2, u3⟩ := mm48_l (E := fun u v => mgW m l u v (qD m a)) ha4 (x2 := iN b) (x3 := z) (K := fun (S25 : hs) (y26 : Int32) => bd (f_M_walkerIs S25 (iN b) (1 : Int32)) fun r27 S28 => bd (f_M_findOnto S28 r27 (0 : Int32)) fun r30 S31 => lp_M_meet_101 (iN b) z (fun (S42 : hs) (y43 : Int32) (y44 : Int32) (y45 : Int32) => (if 0 ≤ y43 then (if z = 0 then some (y43, S42) else some (y44, S42)) else some ((-3 : Int32), S42))) 1000 S31 (-1 : Int32) (100000 : Int32) (0 : Int32)) (nCr m) 0 1000 M1 o4 o3 (fun x hx => by omega) (by omega) (by omega)
          have g5 := (g4.trans o2).trans (p24S u2)
          obtain ⟨M3, v1, v2, v3⟩ := pM_findOnto (PrM.law (m := m) (l := l) (w := qD m b) kb.2.2 ht.2.2.2) (S := M2) ⟨(ht.fr g5).2.1, fr3 h g5⟩
          have v4 : Tn M3 m := (ht.fr g5).2.1.fr v2 (nOn (by omega))
          have hcv : ∀ x, x < nCr m → CV m (fun u v => mgW m l u v (qD m a)) (qC m a) x (A1 x) ∧ CV m (fun u v => mgW m l u v (qD m b)) (qC m b) x (A2 x) ∧ mx1 (A1 x) (A2 x) = mx1 (A1 x) (A2 x) := fun x hx => ⟨(r3 x hx).1, (t3 x hx).1, rfl⟩
          obtain ⟨M4, w1, w2⟩ := mm101_l (E := fun u v => mgW m l u v (qD m b)) (E1 := fun u v => mgW m l u v (qD m a)) (u1 := qC m a) hb4 (x3 := z) (V := fun x => mx1 (A1 x) (A2 x)) (A1 := A1) (A2 := A2) (K := fun (S42 : hs) (y43 : Int32) (y44 : Int32) (y45 : Int32) => (if 0 ≤ y43 then (if z = 0 then some (y43, S42) else some (y44, S42)) else some ((-3 : Int32), S42))) hcv (nCr m) 0 1000 none M3 v4 v3 (fun x hx => by rw [(v2 204 (nOn (by omega))).1 x]; exact u3 x hx) (by omega) (by omega) (fun p h => by cases h)
          have hfin : ∀ x, x < nCr m → mx1 (A1 x) (A2 x) ≤ 720 ∨ mx1 (A1 x) (A2 x) = 1000000 := fun x hx => by
            obtain ⟨c1, c2, -⟩ := hcv x hx
            obtain ⟨f1, g1, -⟩ := u3 x hx
            obtain ⟨-, f2, -, -, g2⟩ := pM_farBy hb4 (iN x) v4 v3
            have e1 := c1.2 f1 g1
            have e2 := c2.2 f2 g2
            unfold mx1; split <;> omega
          have hp := bst_f (m := m) (V := fun x => mx1 (A1 x) (A2 x)) hfin (nCr m) 0 none (by omega) (fun p h => by cases h)
          have l4 : Fr Scr T4 M4 := ((o2.trans (p24S u2)).trans (v2.mono onScr)).trans (f202 w2)
          have zc : ¬ z < 0 ∧ z ≤ (1 : Int32) := ⟨lt_n (x := z) rfl tl0 qz.1, Int32.le_iff_toInt_le.mpr qz.2⟩
          have T0a : gI T0 (70 + a) 1 = iN (qD m a) := ((f2 (70 + a) (n45 (by omega))).1 1).trans (hc.k ha4).2.1
          have T1a : gI T1 (70 + a) 0 = iN (qC m a) := (((g1 (70 + a) (nScr (by omega))).1 0)).trans (hc.k ha4).1
          have T2b : gI T2 (70 + b) 1 = iN (qD m b) := (((g2 (70 + b) (nScr (by omega))).1 1)).trans (hc.k hb4).2.1
          have T3b : gI T3 (70 + b) 0 = iN (qC m b) := (((g3 (70 + b) (nScr (by omega))).1 0)).trans (hc.k hb4).1
          have hX : ∀ r : Int32, (if (oC (-3) (bst1 (fun x => mx1 (A1 x) (A2 x)) (nCr m) 0 none)) = (-3 : Int32) then some ((-3 : Int32), T4) else (if z = 0 then some (oC (-3) (bst1 (fun x => mx1 (A1 x) (A2 x)) (nCr m) 0 none), T4) else ck (inb (oC (-3) (bst1 (fun x => mx1 (A1 x) (A2 x)) (nCr m) 0 none)) 12) (some ((gI T4 145 (oC (-3) (bst1 (fun x => mx1 (A1 x) (A2 x)) (nCr m) 0 none)).toNatClampNeg), T4)))) = some (r, T4) → f_X_meet S (iN a) (iN b) z = some (r, T4) := fun r hr => by
            unfold f_X_meet
            rw [hwk_y hc q, bd_s, if_neg (by decide), hwk_y hc q', bd_s, if_neg (by decide), if_neg qe, if_neg zc.1, if_pos zc.2, f1, bd_s, ck_of (iN_b (by omega) (by decide)), iN_c (by omega), T0a, p1, bd_s, T1a, r1, bd_s, ck_of (iN_b (by omega) (by decide)), iN_c (by omega), T2b, s1, bd_s, T3b, t1, bd_s, m1, bd_s]
            exact hr
          have hMm : ∀ r : Int32, (if 0 ≤ (oC (-1) (bst1 (fun x => mx1 (A1 x) (A2 x)) (nCr m) 0 none)) then (if z = 0 then some (oC (-1) (bst1 (fun x => mx1 (A1 x) (A2 x)) (nCr m) 0 none), M4) else some (iN (bV (fun x => mx1 (A1 x) (A2 x)) 100000 (bst1 (fun x => mx1 (A1 x) (A2 x)) (nCr m) 0 none)), M4)) else some ((-3 : Int32), M4)) = some (r, M4) → f_M_meet T4 (iN a) (iN b) z = some (r, M4) := fun r hr => by
            unfold f_M_meet
            rw [mwk_y ht4.2.1 q, bd_s, if_neg (by decide), mwk_y ht4.2.1 q', bd_s, if_neg (by decide), if_neg qe, pM_in, bd_s, show (0 : Int32).toInt = 0 from rfl, show (1 : Int32).toInt = 1 from rfl, decide_eq_true qz, if_bI, bt_t, wkI1 ht4.2.1 ha4, bd_s, o1, bd_s]
            refine Eq.trans u1 ?_
            show bd (f_M_walkerIs M2 (iN b) (1 : Int32)) _ = _
            rw [wkI1 (ht.fr g5).2.1 hb4, bd_s, v1, bd_s]
            exact Eq.trans w1 hr
          generalize hbb : bst1 (fun x => mx1 (A1 x) (A2 x)) (nCr m) 0 none = bb at hX hMm hp
          cases bb with
          | none => exact Q2.fr (r := -3) h (S1 := T4) (S2 := M4) (hX _ rfl) (hMm _ rfl) g4 l4
          | some p =>
            have hpp := hp p rfl
            have oc1 : oC (-3) (some p) = iN p := rfl
            have oc2 : oC (-1) (some p) = iN p := rfl
            rw [oc1] at hX
            rw [oc2] at hMm
            rw [if_pos (le_y (x := (0 : Int32)) tl0 (iN_i (by omega)) (by omega))] at hMm
            rw [if_neg (l3 (by omega)), ck_of (iN_b (by omega) (by decide)), iN_c (by omega), hV p hpp.1] at hX
            by_cases z0 : z = 0
            · rw [if_pos z0] at hX hMm
              exact Q2.fr (r := iN p) h (S1 := T4) (S2 := M4) (hX _ rfl) (hMm _ rfl) g4 l4
            · rw [if_neg z0] at hX hMm
              exact Q2.fr (r := iN (mx1 (A1 p) (A2 p))) h (S1 := T4) (S2 := M4) (hX _ rfl) (hMm _ rfl) g4 l4
        · refine Q2.same (r := -1) h ?_ ?_
          · unfold f_X_meet
            rw [hwk_y hc q, bd_s, if_neg (by decide), hwk_y hc q', bd_s, if_neg (by decide), if_neg qe]
            by_cases z0 : z < 0
            · rw [if_pos z0]
            · rw [if_neg z0, if_neg (fun y => qz ⟨(by rcases Int.lt_or_le z.toInt 0 with w | w; exact absurd (lt_y (x := z) rfl tl0 w) z0; exact w), Int32.le_iff_toInt_le.mp y⟩)]
          · show f_M_meet S _ _ _ = _
            unfold f_M_meet
            rw [mwk_y hn q, bd_s, if_neg (by decide), mwk_y hn q', bd_s, if_neg (by decide), if_neg qe, pM_in, bd_s, show (0 : Int32).toInt = 0 from rfl, show (1 : Int32).toInt = 1 from rfl, decide_eq_false qz, if_bI, bt_f]
    · refine Q2.same (r := -1) h ?_ ?_
      · unfold f_X_meet
        rw [hwk_y hc q, bd_s, if_neg (by decide), hwk_n hc q', bd_s, if_pos rfl]
      · show f_M_meet S _ _ _ = _
        unfold f_M_meet
        rw [mwk_y hn q, bd_s, if_neg (by decide), mwk_n hn q', bd_s, if_pos rfl]
  · refine Q2.same (r := -1) h ?_ ?_
    · unfold f_X_meet
      rw [hwk_n hc q, bd_s, if_pos rfl]
    · show f_M_meet S _ _ _ = _
      unfold f_M_meet
      rw [mwk_n hn q, bd_s, if_pos rfl]
end
