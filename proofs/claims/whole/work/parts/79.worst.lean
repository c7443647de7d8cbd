/-! worst. -/
def Vl (m : Nat → Int32) (E : Nat → Nat → Bool) (D : Nat → Nat → Nat) (v c x : Nat) : Prop := cIs m v = true ∧ c < nCr m ∧ ∃ r, FarIs (eC E (cIs m)) m v (iN c) r ∧ r < 100000 ∧ D (enn m v) c ≤ r ∧ x = r - D (enn m v) c
def MxO (m : Nat → Int32) (E : Nat → Nat → Bool) (D : Nat → Nat → Nat) (P : Nat → Nat → Prop) (b : Option Nat) : Prop := (∀ v c x, P v c → Vl m E D v c x → ∃ y, b = some y ∧ x ≤ y) ∧ ∀ y, b = some y → y ≤ 100000 ∧ ∃ v c, Vl m E D v c y
def mxo : Option Nat → Nat → Nat
  | none, x => x
  | some a, x => mx1 a x
section
variable {k : cx} {S S1 S2 T : hs} {m m' : Nat → Int32} {l : Lz} {E : Nat → Nat → Bool} {D : Nat → Nat → Nat}
theorem MxO.uniq {P P' : Nat → Nat → Prop} {b b' : Option Nat} (h : MxO m E D P b) (h' : MxO m E D P' b') (hP : ∀ v c x, Vl m E D v c x → P v c) (hP' : ∀ v c x, Vl m E D v c x → P' v c) : b = b' := by
  cases b with
  | none =>
    cases b' with
    | none => rfl
    | some y =>
      obtain ⟨-, v, c, hv⟩ := h'.2 y rfl
      obtain ⟨z, hz, -⟩ := h.1 v c y (hP _ _ _ hv) hv
      cases hz
  | some a =>
    obtain ⟨-, v, c, hv⟩ := h.2 a rfl
    obtain ⟨z, hz, h1⟩ := h'.1 v c a (hP' _ _ _ hv) hv
    subst hz
    obtain ⟨-, v, c, hv⟩ := h'.2 z rfl
    obtain ⟨z2, hz2, h2⟩ := h.1 v c z (hP _ _ _ hv) hv
    cases hz2
    congr 1
    omega
theorem MxO.add {P P' : Nat → Nat → Prop} {b : Option Nat} (h : MxO m E D P b) {v c x : Nat} (hv : Vl m E D v c x) (hx : x ≤ 100000) (hP : ∀ v' c' x', Vl m E D v' c' x' → P' v' c' → P v' c' ∨ (v' = v ∧ c' = c)) (hu : ∀ x', Vl m E D v c x' → x' = x) : MxO m E D P' (some (mxo b x)) := by
  have key : x ≤ mxo b x ∧ (∀ a, b = some a → a ≤ mxo b x) ∧ (mxo b x = x ∨ ∃ a, b = some a ∧ mxo b x = a) := by
    cases b with
    | none => exact ⟨Nat.le_refl _, (fun a h => by cases h), Or.inl rfl⟩
    | some a =>
      show x ≤ mx1 a x ∧ (∀ a', some a = some a' → a' ≤ mx1 a x) ∧ _
      have e : mxo (some a) x = mx1 a x := rfl
      rw [e]
      unfold mx1
      split
      · exact ⟨Nat.le_refl _, (fun a' h => by cases h; omega), Or.inl rfl⟩
      · exact ⟨by omega, (fun a' h => by cases h; omega), Or.inr ⟨a, rfl, rfl⟩⟩
  refine ⟨fun v' c' x' hp hv' => ⟨_, rfl, ?_⟩, fun y hy => ?_⟩
  · rcases hP _ _ _ hv' hp with z | ⟨rfl, rfl⟩
    · obtain ⟨y, hy, h1⟩ := h.1 _ _ _ z hv'
      have := key.2.1 y hy
      omega
    · have := hu _ hv'
      omega
  · cases hy
    rcases key.2.2 with z | ⟨a, z1, z2⟩
    · rw [z]; exact ⟨hx, v, c, hv⟩
    · rw [z2]; exact h.2 a z1
theorem MxO.skip {P P' : Nat → Nat → Prop} {b : Option Nat} (h : MxO m E D P b) (hP : ∀ v' c' x', Vl m E D v' c' x' → P' v' c' → P v' c') : MxO m E D P' b := ⟨fun v c x hp hv => h.1 v c x (hP _ _ _ hv hp) hv, h.2⟩
theorem max_o {b : Option Nat} {x : Nat} {d : Int32} (hd : d = -3 ∨ d = -1) (hx : x < 2147483648) (hb : ∀ a, b = some a → a ≤ 100000) : f_Ma_max S (oC d b) (iN x) = some (oC d (some (mxo b x)), S) := by
  cases b with
  | none =>
    show f_Ma_max S d (iN x) = some (iN x, S)
    unfold f_Ma_max
    have e : d.toInt < 0 := by rcases hd with rfl | rfl <;> decide
    rw [if_pos (lt_y (x := d) rfl (iN_i hx) (by omega))]
  | some a =>
    have := hb a rfl
    exact pMax (by omega) hx
theorem walk_q (hE : ∀ u x, E u x = true → enn m u = bgn m x) : ∀ {n v t w : Nat}, Wk (eC E (cIs m)) (lNg m) n v t w → WQ (Rc1 m) (enn m v) (enn m t) w
  | 0, v, t, w, ⟨h1, h2⟩ => by subst h1; subst h2; exact WQ.rfl'
  | n + 1, v, t, w, ⟨x, w', a, b, c⟩ => by
    subst c
    obtain ⟨-, cx, e⟩ := eC_c a
    exact (WQ.one ⟨x, cx, (hE v x e).symm, rfl, rfl⟩).trans (walk_q hE b)
theorem far_D (v0 : VM m) (hE : ∀ u x, E u x = true → enn m u = bgn m x) (hD : TbG (Rc1 m) D (nCr m)) {v c r : Nat} (hv : v < 2 * nSt m) (hc : c < nCr m) (h : FarIs (eC E (cIs m)) m v (iN c) r) (hr : r < 100000) : D (enn m v) c ≤ r := by
  have hcc := v0.c.2
  obtain ⟨t, t1, n, t2⟩ := h.2.2 hr
  have ht := WS.lt (N := 2 * nSt m) (fun u v g => (eC_lt g).2) hv ⟨n, t2⟩
  have le := enn_lt v0 ht
  have e : enn m t = c := (iN_eq (by omega) (by omega)).mp t1
  obtain ⟨n', hq⟩ := walk_q hE t2
  rw [e] at hq
  exact hD.min (fun a b w r => (Rc1_r v0 r).2.1) hq
theorem far_Ms {v c : Nat} (hM : Ms T m E (tgC m (iN c))) (cv : cIs m v = true) (h : dF T v < 1000000) : FarIs (eC E (cIs m)) m v (iN c) (dF T v) := by
  obtain ⟨m1, m2, m3, m4⟩ := hM
  obtain ⟨a, -, t, t1, t2⟩ := m2 v (cIs_lt cv) h
  exact ⟨by omega, fun t' w hw e => by
    obtain ⟨n, hw⟩ := hw
    exact Wk.min (Tg := tgC m (iN c)) (fun t ht => m3 t (cIs_lt ht.1) ht) m4 hw ⟨WS.c ⟨n, hw⟩ cv, e⟩, fun _ => ⟨t, t1.2, t2⟩⟩
theorem wd20_l (hW : Wy T m E) (v0 : VM m) (hE : ∀ u x, E u x = true → enn m u = bgn m x) (hX : MX T (nCr m) D) (hD : TbG (Rc1 m) D (nCr m)) {c : Nat} (hc : c < nCr m) (hM : Ms T m E (tgC m (iN c))) {K : hs → Int32 → Int32 → Option (Int32 × hs)} : ∀ (r v n : Nat) (b : Option Nat), MxO m E D (fun v' c' => c' < c ∨ (c' = c ∧ v' < v)) b → v + r = 2 * nSt m → r < n → ∃ b', lp_W_worstDetour_20 (iN c) K n T (oC (-3) b) (iN v) = K T (oC (-3) b') (iN (2 * nSt m)) ∧ MxO m E D (fun v' c' => c' < c + 1) b' := by
  have hss := v0.s.2
  have hcc := v0.c.2
  intro r
  induction r with
  | zero =>
    intro v n b hb hv hn
    obtain ⟨n, rfl⟩ : ∃ q, n = q + 1 := ⟨n - 1, by omega⟩
    obtain rfl : v = 2 * nSt m := by omega
    exact ⟨b, by rw [lp_W_worstDetour_20, hW.1.1, if_pos ((iN_le (by omega) (by omega)).mpr (by omega))], hb.skip (fun v' c' x' h1 h2 => by have := cIs_lt h1.1; have h2 : c' < c + 1 := h2; show c' < c ∨ c' = c ∧ _; omega)⟩
  | succ r ih =>
    intro v n b hb hv hn
    obtain ⟨n, rfl⟩ : ∃ q, n = q + 1 := ⟨n - 1, by omega⟩
    have hv2 : v < 2 * nSt m := by omega
    obtain ⟨e1, e2⟩ := hM.1 v hv2
    have le := enn_lt v0 hv2
    have i6 : (1000000 : Int32) = iN 1000000 := rfl
    rw [lp_W_worstDetour_20, hW.1.1, if_neg (fun z => by have := (iN_le (by omega) (by omega)).mp z; omega), ck_of (iN_b (by omega) (by decide)), iN_c (by omega), e1, i6, iN_1]
    by_cases q : 1000000 ≤ dF T v
    · rw [if_pos ((iN_le (by omega) (by omega)).mpr q)]
      refine ih (v + 1) n b (hb.skip (fun v' c' x' h1 h2 => ?_)) (by omega) (by omega)
      have h2 : c' < c ∨ c' = c ∧ v' < v + 1 := h2
      show c' < c ∨ c' = c ∧ v' < v
      by_cases z : c' = c ∧ v' = v
      · obtain ⟨rfl, rfl⟩ := z
        obtain ⟨cv, -, r, hF, hr, -, -⟩ := h1
        have := far_cmp hM hF cv
        omega
      · omega
    · obtain ⟨b1, cv, -⟩ := hM.2.1 v hv2 (by omega)
      have hF := far_Ms hM cv (by omega)
      have hle := far_D v0 hE hD hv2 hc hF (by omega)
      have e4 := hX (enn m v) c le hc
      rw [if_neg (fun z => q ((iN_le (by omega) (by omega)).mp z)), (hW.1.2.2.1 v hv2).2.1, ck_of (iN_b (by omega) (by decide)), ck_of (iN_b (by omega) (by decide)), iN_c (by omega), iN_c (by omega), e4, iN_s hle, max_o (Or.inl rfl) (by omega) (fun a h => (hb.2 a h).1), bd_s]
      refine ih (v + 1) n _ (hb.add (v := v) (c := c) (x := dF T v - D (enn m v) c) ⟨cv, hc, dF T v, hF, by omega, hle, rfl⟩ (by omega) (fun v' c' x' h1 h2 => ?_) (fun x' h1 => ?_)) (by omega) (by omega)
      · have h2 : c' < c ∨ c' = c ∧ v' < v + 1 := h2
        show (c' < c ∨ c' = c ∧ v' < v) ∨ _
        omega
      · obtain ⟨-, -, r, hr, -, -, e⟩ := h1
        rw [e, FarIs.uniq hr hF]
theorem wd5_l (v0 : VM m) (hE : ∀ u x, E u x = true → enn m u = bgn m x) (hD : TbG (Rc1 m) D (nCr m)) : ∀ (r c n : Nat) (b : Option Nat) (T : hs), Wy T m E → MX T (nCr m) D → MxO m E D (fun v' c' => c' < c) b → c + r = nCr m → r < n → ∃ b' U, lp_W_worstDetour_5 n T (oC (-3) b) (iN c) = some (oC (-3) b', U) ∧ Fr (fun q => q = 144) T U ∧ MxO m E D (fun v' c' => c' < nCr m) b' := by
  have hss := v0.s.2
  have hcc := v0.c.2
  intro r
  induction r with
  | zero =>
    intro c n b T hW hX hb hv hn
    obtain ⟨n, rfl⟩ : ∃ q, n = q + 1 := ⟨n - 1, by omega⟩
    obtain rfl : c = nCr m := by omega
    exact ⟨b, T, by rw [lp_W_worstDetour_5, hW.1.2.1, if_pos ((iN_le (by omega) (by omega)).mpr (by omega))], Fr.rfl', hb⟩
  | succ r ih =>
    intro c n b T hW hX hb hv hn
    obtain ⟨n, rfl⟩ : ∃ q, n = q + 1 := ⟨n - 1, by omega⟩
    obtain ⟨V, a1, a2, a3⟩ := pW_measureTo hW v0 (iN c)
    have hV := hW.f144 a2
    have hXV : MX V (nCr m) D := fun a b ha hb => by rw [(a2 (147 + a) (fun z => by have z : 147 + a = 144 := z; omega)).1 b]; exact hX a b ha hb
    obtain ⟨b1, c1, c2⟩ := wd20_l hV v0 hE hXV hD (c := c) (by omega) a3 (K := fun (S13 : hs) (y14 : Int32) (y15 : Int32) => lp_W_worstDetour_5 n S13 y14 (iN c + (1 : Int32))) (2 * nSt m) 0 1000 b (hb.skip (fun v' c' x' _ h2 => by have h2 : c' < c ∨ c' = c ∧ v' < 0 := h2; show c' < c; omega)) (by omega) (by omega)
    obtain ⟨b2, U, d1, d2, d3⟩ := ih (c + 1) n b1 V hV hXV c2 (by omega) (by omega)
    refine ⟨b2, U, ?_, a2.trans d2, d3⟩
    rw [lp_W_worstDetour_5, hW.1.2.1, if_neg (fun z => by have := (iN_le (by omega) (by omega)).mp z; omega), a1, bd_s]
    refine Eq.trans c1 ?_
    show lp_W_worstDetour_5 n V _ (iN c + (1 : Int32)) = _
    rw [iN_1]; exact d1
theorem pM_farTo {G : Nat → Nat → Bool} (hG : ∀ u v, G u v = true → u < 2 * nSt m ∧ v < 2 * nSt m) {s : Nat} (hs2 : s < 2 * nSt m) (c : Int32) (hT : Tn T m) (hF : Fi T G (lNg m) s) (hx : ∀ u x, G u x = true → gF T x ≤ gF T u + lNg m x) : ∃ r, f_M_farTo T c = some (iN r, T) ∧ FarIs G m s c r := by
  have hss := hT.1.s.2
  have hR : ∀ v w, WS G (lNg m) s v w → v < 2 * nSt m := fun v w h => WS.lt (fun u v g => (hG u v g).2) hs2 h
  obtain ⟨b, b1, b2, b3, b4⟩ := ft_l hT hF hR (c := c) 40 0 1000 100000 (by omega) (by omega) (by omega) (fun x hx => by omega) (fun h => by omega)
  refine ⟨b, b1, b2, fun t w h e => ?_, fun h => ?_⟩
  · have h4 := hR t w h
    have := b3 t (by omega) e
    obtain ⟨n, h⟩ := h
    have := WS.min0 hx h
    have := hF.2.1
    omega
  · obtain ⟨x, x1, x2, x3⟩ := b4 h
    exact ⟨x, x2, by have := hF.2.2 x x1 (by omega); rw [x3] at this; exact this⟩
theorem mw50_l (hT : Tn T m) (hE : ∀ u x, E u x = true → enn m u = bgn m x) (hD : TbG (Rc1 m) D (nCr m)) {v : Nat} (cv : cIs m v = true) (hF : Fi T (eC E (cIs m)) (lNg m) v) (hx : ∀ u x, eC E (cIs m) u x = true → gF T x ≤ gF T u + lNg m x) (hQ : Fe T (Rc1 m) (enn m v)) (hA : ∀ c, c < 12 → ∀ w, WQ (Rc1 m) (enn m v) c w → gE T c ≤ w) {x3 : Int32} {K : hs → Int32 → Int32 → Option (Int32 × hs)} : ∀ (r c n : Nat) (b : Option Nat), MxO m E D (fun v' c' => v' < v ∨ (v' = v ∧ c' < c)) b → c + r = nCr m → r < n → ∃ b', lp_M_worst_50 x3 K n T (oC (-1) b) (iN c) = K T (oC (-1) b') (iN (nCr m)) ∧ MxO m E D (fun v' c' => v' < v + 1) b' := by
  have v0 := hT.1
  have hss := v0.s.2
  have hcc := v0.c.2
  have hv2 := cIs_lt cv
  intro r
  induction r with
  | zero =>
    intro c n b hb hv hn
    obtain ⟨n, rfl⟩ : ∃ q, n = q + 1 := ⟨n - 1, by omega⟩
    obtain rfl : c = nCr m := by omega
    exact ⟨b, by rw [lp_M_worst_50, hT.c, if_pos ((iN_le (by omega) (by omega)).mpr (by omega))], hb.skip (fun v' c' x' h1 h2 => by have := h1.2.1; have h2 : v' < v + 1 := h2; show v' < v ∨ v' = v ∧ _; omega)⟩
  | succ r ih =>
    intro c n b hb hv hn
    obtain ⟨n, rfl⟩ : ∃ q, n = q + 1 := ⟨n - 1, by omega⟩
    have hc : c < nCr m := by omega
    obtain ⟨f, f1, f2⟩ := pM_farTo (fun u v g => eC_lt g) hv2 (iN c) hT hF hx
    have f3 := f2.1
    have i5 : (100000 : Int32) = iN 100000 := rfl
    rw [lp_M_worst_50, hT.c, if_neg (fun z => by have := (iN_le (by omega) (by omega)).mp z; omega), f1, bd_s, i5, iN_1]
    by_cases q : 100000 ≤ f
    · rw [if_pos ((iN_le (by omega) (by omega)).mpr q)]
      refine ih (c + 1) n b (hb.skip (fun v' c' x' h1 h2 => ?_)) (by omega) (by omega)
      have h2 : v' < v ∨ v' = v ∧ c' < c + 1 := h2
      show v' < v ∨ v' = v ∧ c' < c
      by_cases z : v' = v ∧ c' = c
      · obtain ⟨rfl, rfl⟩ := z
        obtain ⟨-, -, r, hr, h3, -, -⟩ := h1
        have := FarIs.uniq hr f2
        omega
      · omega
    · have hle := far_D v0 hE hD hv2 hc f2 (by omega)
      have fc := free_cmp v0 hD (c := c) (by omega) hQ hA
      have e4 := (hQ.1 c (by omega)).1
      have e5 : gE T c = D (enn m v) c := by omega
      rw [if_neg (fun z => q ((iN_le (by omega) (by omega)).mp z)), ck_of (iN_b (by omega) (by decide)), iN_c (by omega), e4, e5, iN_s hle, max_o (Or.inr rfl) (by omega) (fun a h => (hb.2 a h).1), bd_s]
      refine ih (c + 1) n _ (hb.add (v := v) (c := c) (x := f - D (enn m v) c) ⟨cv, hc, f, f2, by omega, hle, rfl⟩ ?_ (fun v' c' x' h1 h2 => ?_) (fun x' h1 => ?_)) (by omega) (by omega)
      · omega
      · have h2 : v' < v ∨ v' = v ∧ c' < c + 1 := h2
        show (v' < v ∨ v' = v ∧ c' < c) ∨ _
        omega
      · obtain ⟨-, -, r, hr, -, -, e⟩ := h1
        rw [e, FarIs.uniq hr f2]
theorem gF_e (e : ∀ x, gI T 202 x = gI S 202 x) : gF T = gF S := by
  funext x
  unfold gF
  rw [e x]
theorem Fi.e {G : Nat → Nat → Bool} {ln : Nat → Nat} {s : Nat} (h : Fi S G ln s) (e : ∀ x, gI T 202 x = gI S 202 x) : Fi T G ln s := by
  unfold Fi fOk at *
  rw [gF_e e]
  exact ⟨fun v hv => by rw [e v]; exact h.1 v hv, h.2⟩
def P23 (q : Nat) : Prop := q = 202 ∨ q = 203
theorem n23 {a : Nat} (h : a ≠ 202 ∧ a ≠ 203) : ¬ P23 a := fun z => by unfold P23 at z; omega
theorem p23S (f : Fr P23 S T) : Fr Scr S T := f.mono (fun a z => by unfold P23 at z; unfold Scr; omega)
theorem mw19_l (hE : ∀ u x, E u x = true → enn m u = bgn m x) (hD : TbG (Rc1 m) D (nCr m)) {K : hs → Int32 → Int32 → Option (Int32 × hs)} : ∀ (r v n : Nat) (b : Option Nat) (T : hs), Tn T m → On T (eC E (cIs m)) → MxO m E D (fun v' c' => v' < v) b → v + r = 40 → r < n → ∃ b' U, lp_M_worst_19 K n T (oC (-1) b) (iN v) = K U (oC (-1) b') (iN 40) ∧ Fr P23 T U ∧ MxO m E D (fun v' c' => v' < 40) b' := by
  intro r
  induction r with
  | zero =>
    intro v n b T hT hO hb hv hn
    obtain ⟨n, rfl⟩ : ∃ q, n = q + 1 := ⟨n - 1, by omega⟩
    obtain rfl : v = 40 := by omega
    exact ⟨b, T, by rw [lp_M_worst_19, if_pos i40e], Fr.rfl', hb⟩
  | succ r ih =>
    intro v n b T hT hO hb hv hn
    obtain ⟨n, rfl⟩ : ∃ q, n = q + 1 := ⟨n - 1, by omega⟩
    have hss := hT.1.s.2
    have hcc := hT.1.c.2
    rw [lp_M_worst_19, if_neg (i40 (by omega)), pM_isCourse hT, cIx_n (by omega), bd_s, if_bI]
    cases cv : cIs m v with
    | false =>
      rw [bt_f, iN_1]
      refine ih (v + 1) n b T hT hO (hb.skip (fun v' c' x' h1 h2 => ?_)) (by omega) (by omega)
      have h2 : v' < v + 1 := h2
      show v' < v
      have : v' ≠ v := fun z => by subst z; have h3 := h1.1; rw [cv] at h3; exact absurd h3 (by decide)
      omega
    | true =>
      have hv2 := cIs_lt cv
      have le := enn_lt hT.1 hv2
      obtain ⟨V1, b1, b2, b3, b4⟩ := pM_findFar (fun u v g => eC_lt g) (s := v) (by omega) hT hO
      have hT1 := hT.fr b2 (n202 (by decide))
      obtain ⟨V2, c1, c2, c3, c4⟩ := pM_findFree (s := enn m v) (by omega) hT1
      have e202 : ∀ x, gI V2 202 x = gI V1 202 x := fun x => (c2 202 (n203 (by decide))).1 x
      have f1 : Fr P23 T V2 := (b2.mono (fun a z => Or.inl z)).trans (c2.mono (fun a z => Or.inr z))
      have hT2 := hT.fr f1 (n23 (by omega))
      have hO2 := hO.fr f1 (n23 (by omega))
      obtain ⟨b', d1, d2⟩ := mw50_l hT2 hE hD cv (b3.e e202) (fun u x g => by rw [gF_e e202]; exact b4 u x g) c3 c4 (x3 := iN v) (K := fun (S31 : hs) (y32 : Int32) (y33 : Int32) => lp_M_worst_19 K n S31 y32 (iN v + (1 : Int32))) (nCr m) 0 1000 b (hb.skip (fun v' c' x' _ h2 => by have h2 : v' < v ∨ v' = v ∧ c' < 0 := h2; show v' < v; omega)) (by omega) (by omega)
      obtain ⟨b2', U, a1, a2, a3⟩ := ih (v + 1) n b' V2 hT2 hO2 d2 (by omega) (by omega)
      refine ⟨b2', U, ?_, f1.trans a2, a3⟩
      rw [bt_t, b1, bd_s, pM_endOf hT1 hv2, bd_s, c1, bd_s]
      refine Eq.trans d1 ?_
      show lp_M_worst_19 K n V2 _ (iN v + (1 : Int32)) = _
      rw [iN_1]; exact a1
theorem mgW_e {u v w : Nat} (h : mgW m l u v w = true) : enn m u = bgn m v := by
  refine Classical.byContradiction fun no => ?_
  rw [mgW_0 (wkd_e no)] at h
  exact absurd h (by decide)
theorem q_worst (h : Inv k S) (x : Int32) : Q2 k S (f_X_worst S x) (fun T => f_M_worst T x) := by
  obtain ⟨m, l, ht⟩ := h.1
  have hc := ht.1
  have hn := ht.2.1
  have v0 := hc.1
  have hss := v0.s.2
  by_cases q1 : 0 ≤ x.toInt ∧ x.toInt ≤ 9
  · obtain ⟨w, rfl, hw, ew⟩ := iN_of q1.1
    obtain ⟨T0, a1, a2, a3⟩ := prep2 h ht (w := w) (by omega)
    obtain ⟨T1, D, m1, m2, m3, m4⟩ := pW_measureFreely v0 a3.1
    have w1 : Wy T1 m (fun u v => mgW m l u v w) := a3.fr m2 (fun a h1 h2 => n47 (by omega))
    obtain ⟨b, T2, d1, d2, d3⟩ := wd5_l v0 (fun u x h => mgW_e h) m4 (nCr m) 0 1000 none T1 w1 m3 ⟨fun v c x h => by have h : c < 0 := h; omega, fun y h => by cases h⟩ (by omega) (by have := v0.c.2; omega)
    have d1 : f_W_worstDetour T1 = some (oC (-3) b, T2) := d1
    have f2 := (a2.trans (p47S m2)).trans (f144 d2)
    have ht2 := ht.fr f2
    obtain ⟨S2, c1, c2, c3, c4⟩ := onto2 (fr3 h f2) ht2 (w := w) (by omega)
    obtain ⟨b', S3, e1, e2, e3⟩ := mw19_l (E := fun u v => mgW m l u v w) (fun u x h => mgW_e h) m4 (K := fun (S34 : hs) (y35 : Int32) (y36 : Int32) => (if 0 ≤ y35 then some (y35, S34) else some ((-3 : Int32), S34))) 40 0 1000 none S2 c4 c3 ⟨fun v c x h => by have h : v < 0 := h; omega, fun y h => by cases h⟩ (by omega) (by omega)
    obtain rfl := MxO.uniq d3 e3 (fun v c x h => h.2.1) (fun v c x h => by have := cIs_lt h.1; show v < 40; omega)
    refine Q2.fr (r := oC (-3) b) h (S1 := T2) (S2 := S3) ?_ ?_ f2 (c2.trans (p23S e2))
    · unfold f_X_worst
      rw [(isWidth_y q1).1, bd_s, if_neg (by decide), a1, bd_s, m1, bd_s, d1, bd_s]
    · show f_M_worst T2 _ = _
      unfold f_M_worst
      rw [(isWidth_y q1).2, bd_s, if_neg (by decide), c1, bd_s]
      refine Eq.trans e1 ?_
      cases b with
      | none => rfl
      | some y =>
        have := (d3.2 y rfl).1
        exact if_pos (le_y tl0 (iN_i (by omega)) (by omega))
  · refine Q2.same (r := -1) h ?_ ?_
    · unfold f_X_worst
      rw [(isWidth_n q1).1, bd_s, if_pos rfl]
    · show f_M_worst S _ = _
      unfold f_M_worst
      rw [(isWidth_n q1).2, bd_s, if_pos rfl]
end
