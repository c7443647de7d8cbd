/-! How far: walks; the class's measuring. -/
def Wk (E : Nat → Nat → Bool) (ln : Nat → Nat) : Nat → Nat → Nat → Nat → Prop
  | 0, u, v, w => u = v ∧ w = 0
  | n + 1, u, v, w => ∃ x w', E u x = true ∧ Wk E ln n x v w' ∧ w = ln x + w'
def WS (E : Nat → Nat → Bool) (ln : Nat → Nat) (u v w : Nat) : Prop := ∃ n, Wk E ln n u v w
theorem Wk.snoc {E : Nat → Nat → Bool} {ln : Nat → Nat} : ∀ {n u v w x : Nat}, Wk E ln n u v w → E v x = true → Wk E ln (n + 1) u x (w + ln x)
  | 0, u, v, w, x, ⟨h1, h2⟩, e => by
    subst h1; subst h2
    exact ⟨x, 0, e, ⟨rfl, rfl⟩, by omega⟩
  | n + 1, u, v, w, x, ⟨y, w', h1, h2, h3⟩, e => ⟨y, w' + ln x, h1, Wk.snoc h2 e, by omega⟩
theorem Wk.last {E : Nat → Nat → Bool} {ln : Nat → Nat} : ∀ {n u v w : Nat}, Wk E ln (n + 1) u v w → ∃ x w', Wk E ln n u x w' ∧ E x v = true ∧ w = w' + ln v
  | 0, u, v, w, ⟨x, w', h1, ⟨h2, h3⟩, h4⟩ => by
    subst h2; subst h3
    exact ⟨u, 0, ⟨rfl, rfl⟩, h1, by omega⟩
  | n + 1, u, v, w, ⟨x, w', h1, h2, h4⟩ => by
    obtain ⟨y, w2, a, b, c⟩ := Wk.last h2
    exact ⟨y, ln x + w2, ⟨x, w2, h1, a, rfl⟩, b, by omega⟩
theorem WS.rfl' {E : Nat → Nat → Bool} {ln : Nat → Nat} {u : Nat} : WS E ln u u 0 := ⟨0, rfl, rfl⟩
theorem WS.snoc {E : Nat → Nat → Bool} {ln : Nat → Nat} {u v w x : Nat} (h : WS E ln u v w) (e : E v x = true) : WS E ln u x (w + ln x) := by
  obtain ⟨n, h⟩ := h
  exact ⟨n + 1, h.snoc e⟩
theorem WS.cons {E : Nat → Nat → Bool} {ln : Nat → Nat} {u v w x : Nat} (e : E u x = true) (h : WS E ln x v w) : WS E ln u v (ln x + w) := by
  obtain ⟨n, h⟩ := h
  exact ⟨n + 1, x, w, e, h, rfl⟩
/-- least walks by a fixpoint: towards targets -/
theorem Wk.min {E : Nat → Nat → Bool} {ln d : Nat → Nat} {Tg : Nat → Prop} (hB : ∀ t, Tg t → d t = 0) (hC : ∀ u v, E u v = true → d u ≤ d v + ln v) : ∀ {n u t w : Nat}, Wk E ln n u t w → Tg t → d u ≤ w
  | 0, u, t, w, ⟨h1, h2⟩, ht => by subst h1; rw [hB u ht]; omega
  | n + 1, u, t, w, ⟨x, w', h1, h2, h3⟩, ht => by
    have := Wk.min hB hC h2 ht
    have := hC u x h1
    omega
/-- turns among courses -/
def eC (E : Nat → Nat → Bool) (C : Nat → Bool) (u v : Nat) : Bool := C u && C v && E u v
def lNg (m : Nat → Int32) (v : Nat) : Nat := qL m (v / 2)
/-- what the class has measured -/
def dF (T : hs) (u : Nat) : Nat := (gI T 144 u).toNatClampNeg
def dOk (T : hs) (m : Nat → Int32) : Prop := ∀ u, u < 2 * nSt m → gI T 144 u = iN (dF T u) ∧ dF T u ≤ 1000000
/-- measured: towards Tg -/
def Ms (T : hs) (m : Nat → Int32) (E : Nat → Nat → Bool) (Tg : Nat → Prop) : Prop := dOk T m ∧ (∀ u, u < 2 * nSt m → dF T u < 1000000 → dF T u ≤ 720 ∧ cIs m u = true ∧ ∃ t, Tg t ∧ WS (eC E (cIs m)) (lNg m) u t (dF T u)) ∧ (∀ t, t < 2 * nSt m → Tg t → dF T t = 0) ∧ ∀ u v, eC E (cIs m) u v = true → dF T u ≤ dF T v + lNg m v
/-- the least so far -/
def bN (T : hs) : Option Nat → Nat
  | none => 1000000
  | some v => dF T v
theorem tl6M : (1000000 : Int32).toInt = 1000000 := rfl
theorem tl5M : (100000 : Int32).toInt = 100000 := rfl
theorem eC_c {E : Nat → Nat → Bool} {C : Nat → Bool} {u v : Nat} (h : eC E C u v = true) : C u = true ∧ C v = true ∧ E u v = true := by
  unfold eC at h
  simp only [Bool.and_eq_true] at h
  exact ⟨h.1.1, h.1.2, h.2⟩
section
variable {k : cx} {S S1 S2 T : hs} {m m' : Nat → Int32} {l : Lz}
theorem near_l {E : Nat → Nat → Bool} (hW : Wy T m E) (v0 : VM m) (hd : dOk T m) {o : Int64} : ∀ (r u n : Nat) (b : Option Nat), u + r = 2 * nSt m → r < n → (∀ v, b = some v → v < 2 * nSt m ∧ jb o v = true ∧ dF T v < 1000000) → (∀ x, x < u → jb o x = true → bN T b ≤ dF T x) →
    ∃ c : Option Nat, lp_W_nearest_9 o n T (oC (-1) b) (iN (bN T b)) (iN u) = some (oC (-1) c, T) ∧ (∀ v, c = some v → v < 2 * nSt m ∧ jb o v = true ∧ dF T v < 1000000) ∧ (∀ x, x < 2 * nSt m → jb o x = true → bN T c ≤ dF T x) := by
  have hss := v0.s.2
  intro r
  induction r with
  | zero =>
    intro u n b hu hn h1 h2
    obtain ⟨n, rfl⟩ : ∃ q, n = q + 1 := ⟨n - 1, by omega⟩
    obtain rfl : u = 2 * nSt m := by omega
    exact ⟨b, by rw [lp_W_nearest_9, hW.1.1, if_pos ((iN_le (by omega) (by omega)).mpr (by omega))], h1, h2⟩
  | succ r ih =>
    intro u n b hu hn h1 h2
    obtain ⟨n, rfl⟩ : ∃ q, n = q + 1 := ⟨n - 1, by omega⟩
    obtain ⟨e1, e2⟩ := hd u (by omega)
    rw [lp_W_nearest_9, hW.1.1, if_neg (fun z => by have := (iN_le (by omega) (by omega)).mp z; omega), ck_of (iN_b (by omega) (by decide)), iN_c (by omega), e1, iN_1]
    have x3 : bN T b ≤ 1000000 := by
      cases b with
      | none => exact Nat.le_refl _
      | some v => have := (h1 v rfl).2.2; show dF T v ≤ _; omega
    by_cases q : bN T b ≤ dF T u
    · rw [if_pos ((iN_le (by omega) (by omega)).mpr q)]
      refine ih (u + 1) n b (by omega) (by omega) h1 (fun y hy oy => ?_)
      by_cases z : y = u
      · subst z; exact q
      · exact h2 y (by omega) oy
    · rw [if_neg (fun z => q ((iN_le (by omega) (by omega)).mp z)), pX_isIn (by omega), bd_s, if_bI]
      cases ho : jb o u with
      | false =>
        rw [bt_f]
        refine ih (u + 1) n b (by omega) (by omega) h1 (fun y hy oy => ?_)
        by_cases z : y = u
        · subst z; rw [ho] at oy; exact absurd oy (by decide)
        · exact h2 y (by omega) oy
      | true =>
        rw [bt_t, e1]
        refine ih (u + 1) n (some u) (by omega) (by omega) (fun v hv => by cases hv; exact ⟨by omega, ho, by omega⟩) (fun y hy oy => ?_)
        by_cases z : y = u
        · subst z; exact Nat.le_refl _
        · have := h2 y (by omega) oy
          show dF T u ≤ dF T y
          omega
theorem m97_l {E : Nat → Nat → Bool} (v0 : VM m) {o : Int64} {x5 : Int32} {v th : Nat} (hv : v < 2 * nSt m) (hth : th ≤ 1001000) {d : Nat → Nat} {K : hs → Int32 → Option (Int32 × hs)} : ∀ (r u n : Nat) (T : hs), Wy T m E → (∀ x, x < 2 * nSt m → d x ≤ 1000000 ∧ gI T 144 x = iN (if x < u ∧ th < d x ∧ jb o x = true ∧ E x v = true then th else d x)) → u + r = 2 * nSt m → r < n → ∃ U, lp_W_measure_97 o x5 (iN v) (iN th) K n T (iN u) = K U (iN (2 * nSt m)) ∧ Fr (fun q => q = 144) T U ∧ ∀ x, x < 2 * nSt m → gI U 144 x = iN (if th < d x ∧ jb o x = true ∧ E x v = true then th else d x) := by
  have hss := v0.s.2
  intro r
  induction r with
  | zero =>
    intro u n T hW hd hu hn
    obtain ⟨n, rfl⟩ : ∃ q, n = q + 1 := ⟨n - 1, by omega⟩
    obtain rfl : u = 2 * nSt m := by omega
    refine ⟨T, by rw [lp_W_measure_97, hW.1.1, if_pos ((iN_le (by omega) (by omega)).mpr (by omega))], Fr.rfl', fun x hx => ?_⟩
    rw [(hd x hx).2]
    congr 1
    by_cases z : th < d x ∧ jb o x = true ∧ E x v = true
    · rw [if_pos ⟨hx, z⟩, if_pos z]
    · rw [if_neg (fun y => z y.2), if_neg z]
  | succ r ih =>
    intro u n T hW hd hu hn
    obtain ⟨n, rfl⟩ : ∃ q, n = q + 1 := ⟨n - 1, by omega⟩
    obtain ⟨d1, d2⟩ := hd u (by omega)
    rw [if_neg (fun y => by omega)] at d2
    have keep : ¬ (th < d u ∧ jb o u = true ∧ E u v = true) → ∃ U, lp_W_measure_97 o x5 (iN v) (iN th) K n T (iN (u + 1)) = K U (iN (2 * nSt m)) ∧ Fr (fun q => q = 144) T U ∧ ∀ x, x < 2 * nSt m → gI U 144 x = iN (if th < d x ∧ jb o x = true ∧ E x v = true then th else d x) := by
      intro no
      refine ih (u + 1) n T hW (fun x hx => ⟨(hd x hx).1, ?_⟩) (by omega) (by omega)
      rw [(hd x hx).2]
      congr 1
      by_cases z : x = u
      · subst z; rw [if_neg (fun y => no y.2), if_neg (fun y => no y.2)]
      · by_cases z2 : x < u
        · have : x < u + 1 := by omega
          simp only [z2, this]
        · rw [if_neg (fun y => z2 y.1), if_neg (fun y => by omega)]
    rw [lp_W_measure_97, hW.1.1, if_neg (fun z => by have := (iN_le (by omega) (by omega)).mp z; omega), ck_of (iN_b (by omega) (by decide)), iN_c (by omega), d2, iN_1]
    by_cases q1 : th < d u
    · rw [if_neg (fun z => by have := (iN_le (by omega) (by omega)).mp z; omega), pX_isIn (by omega), bd_s, if_bI]
      cases q2 : jb o u with
      | false => rw [bt_f]; exact keep (fun y => by rw [q2] at y; exact absurd y.2.1 (by decide))
      | true =>
        rw [bt_t, pX_isIn (by omega), bd_s, if_bI, hW.2 u (by omega) v (by omega)]
        cases q3 : E u v with
        | false => rw [bt_f]; exact keep (fun y => by rw [q3] at y; exact absurd y.2.2 (by decide))
        | true =>
          rw [bt_t]
          have f1 : Fr (fun q => q = 144) T (uI T 144 u (iN th)) := Fr.rfl'.uI rfl
          obtain ⟨U, h1, h2, h3⟩ := ih (u + 1) n (uI T 144 u (iN th)) (hW.fr f1 (fun a h1 h2 z => by have z : a = 144 := z; omega)) (fun x hx => ⟨(hd x hx).1, by
            rw [gI_u]
            by_cases z : x = u
            · subst z; rw [if_pos ⟨rfl, rfl⟩, if_pos ⟨by omega, q1, q2, q3⟩]
            · rw [if_neg (fun y => z y.2), (hd x hx).2]
              congr 1
              by_cases z2 : x < u
              · have : x < u + 1 := by omega
                simp only [z2, this]
              · rw [if_neg (fun y => z2 y.1), if_neg (fun y => by omega)]⟩) (by omega) (by omega)
          exact ⟨U, h1, f1.trans h2, h3⟩
    · rw [if_pos ((iN_le (by omega) (by omega)).mpr (by omega))]
      exact keep (fun y => q1 y.1)
/-- while the class measures: o are the courses that wait -/
def Dj (T : hs) (m : Nat → Int32) (E : Nat → Nat → Bool) (Tg : Nat → Prop) (o : Int64) (r : Nat) : Prop :=
  dOk T m ∧ (∀ u, jb o u = true → cIs m u = true) ∧ (∀ a b, cIs m a = true → jb o a = false → jb o b = true → dF T a ≤ dF T b) ∧ (∀ u v, cIs m v = true → jb o v = false → eC E (cIs m) u v = true → dF T u ≤ dF T v + lNg m v) ∧
  (∀ u, u < 2 * nSt m → dF T u < 1000000 → dF T u ≤ 18 * r ∧ cIs m u = true ∧ ∃ t, Tg t ∧ WS (eC E (cIs m)) (lNg m) u t (dF T u)) ∧ (∀ t, t < 2 * nSt m → Tg t → dF T t = 0) ∧ r ≤ cnt (fun x => !jb o x) (2 * nSt m)
theorem lNg_r (v0 : VM m) {v : Nat} (hv : v < 2 * nSt m) : 1 ≤ lNg m v ∧ lNg m v ≤ 18 := qL_le v0 (half_lt hv)
theorem dj_l {E : Nat → Nat → Bool} (v0 : VM m) {Tg : Nat → Prop} : ∀ (r i n : Nat) (o : Int64) (T : hs), Wy T m E → Dj T m E Tg o i → i + r = 2 * nSt m → r < n → ∃ U, lp_W_measure_44 n T o (iN i) = some (0, U) ∧ Fr (fun q => q = 144) T U ∧ Ms U m E Tg := by
  have hss := v0.s.2
  intro r
  induction r with
  | zero =>
    intro i n o T hW hD hi hn
    obtain ⟨n, rfl⟩ : ∃ q, n = q + 1 := ⟨n - 1, by omega⟩
    obtain ⟨a1, a2, a3, a4, a5, a6, a7⟩ := hD
    refine ⟨T, by rw [lp_W_measure_44, hW.1.1, if_pos ((iN_le (by omega) (by omega)).mpr (by omega))], Fr.rfl', a1, fun u hu h => ?_, a6, fun u v e => ?_⟩
    · obtain ⟨b1, b2⟩ := a5 u hu h
      exact ⟨by omega, b2⟩
    · have cv := (eC_c e).2.1
      have := cnt_full (p := fun x => !jb o x) (n := 2 * nSt m) (by omega) (cIs_lt cv)
      exact a4 u v cv (by simpa using this) e
  | succ r ih =>
    intro i n o T hW hD hi hn
    obtain ⟨n, rfl⟩ : ∃ q, n = q + 1 := ⟨n - 1, by omega⟩
    obtain ⟨a1, a2, a3, a4, a5, a6, a7⟩ := id hD
    obtain ⟨c, n1, n2, n3⟩ := near_l hW v0 a1 (o := o) (2 * nSt m) 0 1000 none (by omega) (by omega) (fun v h => by cases h) (fun x hx => by omega)
    have n1 : f_W_nearest T o = some (oC (-1) c, T) := n1
    rw [lp_W_measure_44, hW.1.1, if_neg (fun z => by have := (iN_le (by omega) (by omega)).mp z; omega), n1, bd_s]
    cases hcc : c with
    | none =>
      rw [if_neg (by decide)]
      subst hcc
      refine ⟨T, rfl, Fr.rfl', a1, fun u hu h => ?_, a6, fun u v e => ?_⟩
      · obtain ⟨b1, b2⟩ := a5 u hu h
        exact ⟨by omega, b2⟩
      · obtain ⟨cu, cv, -⟩ := eC_c e
        cases ho : jb o v with
        | false => exact a4 u v cv ho e
        | true =>
          have := n3 v (cIs_lt cv) ho
          have := (a1 u (cIs_lt cu)).2
          have : 1000000 ≤ dF T v := by assumption
          omega
    | some v =>
      subst hcc
      obtain ⟨p1, p2, p3⟩ := n2 v rfl
      have n3 : ∀ x, x < 2 * nSt m → jb o x = true → dF T v ≤ dF T x := n3
      have cv := a2 v p2
      have lv := lNg_r v0 p1
      have p4 := (a5 v p1 p3).1
      have e144 := (a1 v p1).1
      have e141 := (hW.1.2.2.1 v p1).2.2
      have o64 : ∀ x, x < 64 → jb (o &&& (((1 : Int64) <<< ((iN v).toInt64 &&& 63)) ^^^ (-1 : Int64))) x = (jb o x && !decide (x = v)) := fun x hx => by rw [jb_and, jb_not _ hx, jb_sh (by omega)]
      have lt64 : ∀ {x : Int64} {v : Nat}, jb x v = true → v < 64 := fun {x v} h => by
        rcases Nat.lt_or_ge v 64 with q | q
        · exact q
        · rw [jb_big q] at h; exact absurd h (by decide)
      have oc : oC (-1) (some v) = iN v := rfl
      rw [oc]
      rw [if_pos (le_y tl0 (iN_i (by omega)) (by omega)), ck_of (iN_b (by omega) (by decide)), iN_c (by omega), e144, e141, iN_a, iN_1]
      generalize ho' : o &&& (((1 : Int64) <<< ((iN v).toInt64 &&& 63)) ^^^ (-1 : Int64)) = o' at o64 ⊢
      obtain ⟨V, h1, h2, h3⟩ := m97_l v0 (o := o') (x5 := iN i) (v := v) (th := dF T v + lNg m v) p1 (by omega) (d := dF T) (K := fun (S27 : hs) (y28 : Int32) => lp_W_measure_44 n S27 o' (iN (i + 1))) (2 * nSt m) 0 1000 T hW (fun x hx => ⟨(a1 x hx).2, by rw [if_neg (fun y => by omega)]; exact (a1 x hx).1⟩) (by omega) (by omega)
      have dV : ∀ x, x < 2 * nSt m → dF V x = if dF T v + lNg m v < dF T x ∧ jb o' x = true ∧ E x v = true then dF T v + lNg m v else dF T x := fun x hx => by
        have := (a1 x hx).2
        unfold dF
        rw [h3 x hx, iN_c]
        · rfl
        · have : (if dF T v + lNg m v < dF T x ∧ jb o' x = true ∧ E x v = true then dF T v + lNg m v else dF T x) ≤ 1000018 := by split <;> omega
          exact Nat.lt_of_le_of_lt this (by decide)
      have dle : ∀ x, x < 2 * nSt m → dF V x ≤ dF T x := fun x hx => by
        rw [dV x hx]; split <;> omega
      have dcl : ∀ x, x < 2 * nSt m → jb o' x = false → dF V x = dF T x := fun x hx ho => by
        rw [dV x hx, if_neg (fun y => by rw [ho] at y; exact absurd y.2.1 (by decide))]
      have ov : jb o' v = false := by rw [o64 v (by omega)]; simp
      have on : ∀ x, x < 2 * nSt m → x ≠ v → jb o' x = jb o x := fun x hx hne => by rw [o64 x (by omega)]; simp [hne]
      have hD' : Dj V m E Tg o' (i + 1) := by
        refine ⟨fun x hx => ⟨?_, ?_⟩, fun x hx => ?_, fun a b ca oa ob => ?_, fun x y cy oy e => ?_, fun x hx hlt => ?_, fun t ht hTg => ?_, ?_⟩
        · rw [h3 x hx, ← dV x hx]
        · have := dle x hx; have := (a1 x hx).2; omega
        · have hx64 := lt64 hx
          rw [o64 x hx64] at hx
          simp only [Bool.and_eq_true] at hx
          exact a2 x hx.1
        · have hb64 := lt64 ob
          have ob' := ob
          rw [o64 b hb64] at ob'
          simp only [Bool.and_eq_true, Bool.not_eq_true', decide_eq_false_iff_not] at ob'
          have hb2 := cIs_lt (a2 b ob'.1)
          have ha2 := cIs_lt ca
          rw [dcl a ha2 oa]
          have hav : dF T a ≤ dF T v := by
            by_cases z : a = v
            · subst z; exact Nat.le_refl _
            · exact a3 a v ca (by rw [← on a ha2 z]; exact oa) p2
          have hvb := n3 b hb2 ob'.1
          rw [dV b hb2]
          split <;> omega
        · obtain ⟨cx, -, exy⟩ := eC_c e
          have hx2 := cIs_lt cx
          have hy2 := cIs_lt cy
          rw [dcl y hy2 oy]
          by_cases z : y = v
          · subst z
            by_cases zx : jb o' x = true
            · rw [dV x hx2]
              by_cases zz : dF T y + lNg m y < dF T x
              · rw [if_pos ⟨zz, zx, exy⟩]; omega
              · rw [if_neg (fun q => zz q.1)]; omega
            · have zx := Bool.eq_false_iff.mpr zx
              rw [dcl x hx2 zx]
              by_cases zz : x = y
              · subst zz; omega
              · have := a3 x y cx (by rw [← on x hx2 zz]; exact zx) p2
                omega
          · have := a4 x y cy (by rw [← on y hy2 z]; exact oy) e
            have := dle x hx2
            omega
        · rw [dV x hx] at hlt ⊢
          by_cases zz : dF T v + lNg m v < dF T x ∧ jb o' x = true ∧ E x v = true
          · rw [if_pos zz]
            have hx64 := lt64 zz.2.1
            have ox := zz.2.1
            rw [o64 x hx64] at ox
            simp only [Bool.and_eq_true] at ox
            have cx := a2 x ox.1
            obtain ⟨t, t1, t2⟩ := (a5 v p1 p3).2.2
            refine ⟨by omega, cx, t, t1, ?_⟩
            have : eC E (cIs m) x v = true := by unfold eC; rw [cx, cv, zz.2.2]; rfl
            have := t2.cons this
            rw [Nat.add_comm] at this
            exact this
          · rw [if_neg zz] at hlt ⊢
            obtain ⟨b1, b2⟩ := a5 x hx hlt
            exact ⟨by omega, b2⟩
        · have := a6 t ht hTg
          have := dle t ht
          omega
        · refine Nat.lt_of_le_of_lt a7 (cnt_lt (fun x hx h => ?_) ⟨v, p1, by simp [p2], by simp [ov]⟩)
          by_cases z : x = v
          · subst z; simp [ov]
          · rw [on x hx z]; exact h
      obtain ⟨U, h4, h5, h6⟩ := ih (i + 1) n o' V (hW.fr h2 (fun a h1 h2 z => by have z : a = 144 := z; omega)) hD' (by omega) (by omega)
      exact ⟨U, Eq.trans h1 h4, h2.trans h5, h6⟩
end
