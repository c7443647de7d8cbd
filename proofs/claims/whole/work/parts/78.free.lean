/-! Freely: the table laid; the model; free. -/
section
variable {k : cx} {S S1 S2 T : hs} {m m' : Nat → Int32} {l : Lz} {E : Nat → Nat → Bool}
theorem i12e : (12 : Int32) ≤ iN 12 := by decide
theorem i12 {i : Nat} (h : i < 12) : ¬ (12 : Int32) ≤ iN i := le_n (b := (i : Int)) (a := 12) rfl (iN_i (by omega)) (by omega)
theorem flw_l {a0 : Nat} (ha : a0 < 12) : ∀ (r c n : Nat) (T : hs), (∀ x, x < c → gI T (147 + a0) x = iN 1000000) → c + r = 12 → r < n → ∃ U, lp_Ar_fill_aIIV_w147_5 a0 (1000000 : Int32) (12 : Int32) n T (iN c) = some (0, U) ∧ Fr (fun q => q = 147 + a0) T U ∧ ∀ x, x < 12 → gI U (147 + a0) x = iN 1000000 := by
  intro r
  induction r with
  | zero =>
    intro c n T h1 hc hn
    obtain ⟨n, rfl⟩ : ∃ q, n = q + 1 := ⟨n - 1, by omega⟩
    obtain rfl : c = 12 := by omega
    exact ⟨T, by rw [lp_Ar_fill_aIIV_w147_5, if_pos i12e], Fr.rfl', h1⟩
  | succ r ih =>
    intro c n T h1 hc hn
    obtain ⟨n, rfl⟩ : ∃ q, n = q + 1 := ⟨n - 1, by omega⟩
    have f1 : Fr (fun q => q = 147 + a0) T (uI T (147 + a0) c (1000000 : Int32)) := Fr.rfl'.uI rfl
    obtain ⟨U, a1, a2, a3⟩ := ih (c + 1) n (uI T (147 + a0) c (1000000 : Int32)) (fun x hx => by
      rw [gI_u]
      by_cases z : x = c
      · rw [if_pos ⟨rfl, z⟩]; rfl
      · rw [if_neg (fun y => z y.2)]; exact h1 x (by omega)) (by omega) (by omega)
    refine ⟨U, ?_, f1.trans a2, a3⟩
    rw [lp_Ar_fill_aIIV_w147_5, if_neg (i12 (by omega)), ck_of (iN_b (by omega) (by decide)), iN_c (by omega), iN_1]
    exact a1
theorem fr2_l {C : hs → Int32 → Option (Int32 × hs)} : ∀ (r c n : Nat) (T : hs), (∀ a b, a < c → b < 12 → gI T (147 + a) b = iN (if a = b then 0 else 1000000)) → c + r = 12 → r < n → ∃ U, lp_W_measureFreely_2 C n T (iN c) = C U (iN 12) ∧ Fr P47 T U ∧ MX U 12 (fun a b => if a = b then 0 else 1000000) := by
  intro r
  induction r with
  | zero =>
    intro c n T h1 hc hn
    obtain ⟨n, rfl⟩ : ∃ q, n = q + 1 := ⟨n - 1, by omega⟩
    obtain rfl : c = 12 := by omega
    exact ⟨T, by rw [lp_W_measureFreely_2, if_pos i12e], Fr.rfl', h1⟩
  | succ r ih =>
    intro c n T h1 hc hn
    obtain ⟨n, rfl⟩ : ∃ q, n = q + 1 := ⟨n - 1, by omega⟩
    obtain ⟨V, b1, b2, b3⟩ := flw_l (a0 := c) (by omega) 12 0 1000 T (fun x hx => by omega) (by omega) (by omega)
    have b1 : f_Ar_fill_aIIV_w147 T c (1000000 : Int32) = some (0, V) := b1
    have f1 : Fr P47 T (uI V (147 + c) c (0 : Int32)) := (b2.mono (fun a z => by have z : a = 147 + c := z; unfold P47; omega)).uI (by unfold P47; omega)
    obtain ⟨U, a1, a2, a3⟩ := ih (c + 1) n (uI V (147 + c) c (0 : Int32)) (fun a b ha hb => by
      rw [gI_u]
      by_cases z : a = c
      · subst z
        by_cases z2 : b = a
        · rw [if_pos ⟨rfl, z2⟩, if_pos z2.symm]; rfl
        · rw [if_neg (fun y => z2 y.2), if_neg (fun y => z2 y.symm)]; exact b3 b hb
      · rw [if_neg (fun y => by omega), (b2 (147 + a) (fun y => by have y : 147 + a = 147 + c := y; omega)).1 b]
        exact h1 a b (by omega) hb) (by omega) (by omega)
    refine ⟨U, ?_, f1.trans a2, a3⟩
    rw [lp_W_measureFreely_2, if_neg (i12 (by omega)), ck_of (iN_b (by omega) (by decide)), iN_c (by omega), b1, bd_s, iN_1]
    exact a1
theorem fr36_l (v0 : VM m) {C : hs → Int32 → Option (Int32 × hs)} : ∀ (r v n : Nat) (T : hs) (D : Nat → Nat → Nat), LkF T m → MX T 12 D → (∀ i, D i i = 0) → (∀ i j, D i j ≤ 1000000) → (∀ i j, D i j < 1000000 → D i j ≤ 18 ∧ WQ (Rc1 m) i j (D i j)) → (∀ x, x < v → cIs m x = true → D (bgn m x) (enn m x) ≤ lNg m x) → v + r = 2 * nSt m → r < n → ∃ (U : hs) (D' : Nat → Nat → Nat), lp_W_measureFreely_36 C n T (iN v) = C U (iN (2 * nSt m)) ∧ Fr P47 T U ∧ MX U 12 D' ∧ TbG (Rc1 m) D' 0 := by
  have hss := v0.s.2
  have hcc := v0.c.2
  intro r
  induction r with
  | zero =>
    intro v n T D hL hX h1 h2 h3 h4 hv hn
    obtain ⟨n, rfl⟩ : ∃ q, n = q + 1 := ⟨n - 1, by omega⟩
    obtain rfl : v = 2 * nSt m := by omega
    refine ⟨T, D, by rw [lp_W_measureFreely_36, hL.1, if_pos ((iN_le (by omega) (by omega)).mpr (by omega))], Fr.rfl', hX, h1, h2, fun i j w hr => ?_, fun i j h => ⟨by have := (h3 i j h).1; omega, (h3 i j h).2⟩, fun k hk => by omega⟩
    obtain ⟨x, cx, rfl, rfl, rfl⟩ := hr
    exact h4 x (cIs_lt cx) cx
  | succ r ih =>
    intro v n T D hL hX h1 h2 h3 h4 hv hn
    obtain ⟨n, rfl⟩ : ∃ q, n = q + 1 := ⟨n - 1, by omega⟩
    rw [lp_W_measureFreely_36, hL.1, if_neg (fun z => by have := (iN_le (by omega) (by omega)).mp z; omega), pX_isIn (by omega), bd_s, if_bI, hL.2.2.2.1 v (by omega), iN_1]
    cases cv : cIs m v with
    | false =>
      rw [bt_f]
      exact ih (v + 1) n T D hL hX h1 h2 h3 (fun x hx cx => by
        by_cases z : x = v
        · subst z; rw [cv] at cx; exact absurd cx (by decide)
        · exact h4 x (by omega) cx) (by omega) (by omega)
    | true =>
      have hv2 : v < 2 * nSt m := by omega
      obtain ⟨e1, e2, e3⟩ := hL.2.2.1 v hv2
      have lb := bgn_lt v0 hv2
      have le := enn_lt v0 hv2
      have lv := lNg_r v0 hv2
      have e3 : gI T 141 v = iN (lNg m v) := e3
      have e4 := hX (bgn m v) (enn m v) (by omega) (by omega)
      have e5 := h2 (bgn m v) (enn m v)
      have ne := be_ne v0 hv2
      rw [bt_t, ck_of (iN_b (by omega) (by decide)), iN_c (by omega), e1, e2, e3, ck_of (iN_b (by omega) (by decide)), ck_of (iN_b (by omega) (by decide)), iN_c (by omega), iN_c (by omega), e4, pMin2 (by omega) (by omega), bd_s]
      have ml := mn2_l (D (bgn m v) (enn m v)) (lNg m v)
      have f1 : Fr P47 T (uI T (147 + bgn m v) (enn m v) (iN (mn2 (D (bgn m v) (enn m v)) (lNg m v)))) := Fr.rfl'.uI (by unfold P47; omega)
      obtain ⟨U, D', a1, a2, a3⟩ := ih (v + 1) n _ _ (hL.p47 f1) (hX.u (bgn m v) (enn m v) (mn2 (D (bgn m v) (enn m v)) (lNg m v))) (fun i => by
        show (if i = bgn m v ∧ i = enn m v then _ else D i i) = 0
        rw [if_neg (fun y => by omega)]; exact h1 i) (fun i j => by
        have := h2 i j
        show (if i = bgn m v ∧ j = enn m v then mn2 (D (bgn m v) (enn m v)) (lNg m v) else D i j) ≤ _
        split <;> omega) (fun i j hlt => by
        by_cases z : i = bgn m v ∧ j = enn m v
        · have hlt : (if i = bgn m v ∧ j = enn m v then mn2 (D (bgn m v) (enn m v)) (lNg m v) else D i j) < 1000000 := hlt
          show (if i = bgn m v ∧ j = enn m v then mn2 (D (bgn m v) (enn m v)) (lNg m v) else D i j) ≤ 18 ∧ WQ (Rc1 m) i j (if i = bgn m v ∧ j = enn m v then mn2 (D (bgn m v) (enn m v)) (lNg m v) else D i j)
          have h7 : mn2 (D (bgn m v) (enn m v)) (lNg m v) < 1000000 := by
            rw [if_pos z] at hlt; exact hlt
          rw [if_pos z]
          clear hlt
          obtain ⟨rfl, rfl⟩ := z
          rcases ml.2.2 with y | y
          · rw [y] at h7 ⊢; exact h3 _ _ h7
          · rw [y]; exact ⟨lv.2, WQ.one ⟨v, cv, rfl, rfl, rfl⟩⟩
        · have hlt : (if i = bgn m v ∧ j = enn m v then mn2 (D (bgn m v) (enn m v)) (lNg m v) else D i j) < 1000000 := hlt
          show (if i = bgn m v ∧ j = enn m v then mn2 (D (bgn m v) (enn m v)) (lNg m v) else D i j) ≤ 18 ∧ WQ (Rc1 m) i j (if i = bgn m v ∧ j = enn m v then mn2 (D (bgn m v) (enn m v)) (lNg m v) else D i j)
          rw [if_neg z] at hlt ⊢
          exact h3 i j hlt) (fun x hx cx => by
        show (if bgn m x = bgn m v ∧ enn m x = enn m v then mn2 (D (bgn m v) (enn m v)) (lNg m v) else D (bgn m x) (enn m x)) ≤ _
        by_cases z : x = v
        · subst z; rw [if_pos ⟨rfl, rfl⟩]; exact ml.2.1
        · have := h4 x (by omega) cx
          by_cases z2 : bgn m x = bgn m v ∧ enn m x = enn m v
          · rw [z2.1, z2.2] at this
            rw [if_pos z2]; omega
          · rw [if_neg z2]; exact this) (by omega) (by omega)
      exact ⟨U, D', a1, f1.trans a2, a3⟩
theorem pW_measureFreely (v0 : VM m) (hL : LkF T m) : ∃ (U : hs) (D : Nat → Nat → Nat), f_W_measureFreely T = some (0, U) ∧ Fr P47 T U ∧ MX U (nCr m) D ∧ TbG (Rc1 m) D (nCr m) := by
  have hss := v0.s.2
  have hcc := v0.c.2
  obtain ⟨V, a1, a2, a3⟩ := fr2_l (C := fun (S6 : hs) (y7 : Int32) => lp_W_measureFreely_36 (fun (S19 : hs) (y20 : Int32) => lp_W_measureFreely_100 1000 S19 (0 : Int32)) 1000 S6 (0 : Int32)) 12 0 1000 T (fun a b ha => by omega) (by omega) (by omega)
  obtain ⟨W, D, b1, b2, b3, b4⟩ := fr36_l v0 (C := fun (S19 : hs) (y20 : Int32) => lp_W_measureFreely_100 1000 S19 (0 : Int32)) (2 * nSt m) 0 1000 V _ (hL.p47 a2) a3 (fun i => if_pos rfl) (fun i j => by
    show (if i = j then 0 else 1000000) ≤ _
    split <;> omega) (fun i j hlt => by
    have hlt : (if i = j then 0 else 1000000) < 1000000 := hlt
    show (if i = j then 0 else 1000000) ≤ 18 ∧ WQ (Rc1 m) i j (if i = j then 0 else 1000000)
    by_cases z : i = j
    · subst z; rw [if_pos rfl]; exact ⟨by omega, WQ.rfl'⟩
    · rw [if_neg z] at hlt; omega) (fun x hx => by omega) (by omega) (by omega)
  obtain ⟨U, c1, c2, c3⟩ := fw100_l v0 b4 (nCr m) 0 1000 W ((hL.p47 a2).p47 b2) (fun a b ha hb => b3 a b (by omega) (by omega)) (by omega) (by omega)
  exact ⟨U, _, Eq.trans a1 (Eq.trans b1 c1), (a2.trans b2).trans c2, c3, b4.all _⟩
end
/-- the model's sums -/
def gE (T : hs) (v : Nat) : Nat := (gI T 203 v).toNatClampNeg
def Fe (T : hs) (R : Nat → Nat → Nat → Prop) (s : Nat) : Prop := (∀ v, v < 12 → gI T 203 v = iN (gE T v) ∧ gE T v ≤ 100000) ∧ gE T s = 0 ∧ ∀ v, v < 12 → gE T v < 100000 → WQ R s v (gE T v)
theorem fin_q {R : Nat → Nat → Nat → Prop} {g g' : Nat → Nat} {s : Nat} (h0 : g s = 0) (hR : ∀ u v w, R u v w → u < 12 ∧ v < 12 ∧ 1 ≤ w) (hb : ∀ v, v < 12 → g v ≤ 100000) (h3 : ∀ x v w, R x v w → g x < 100000 → g' v ≤ g x + w) : ∀ (q w v : Nat), w < q → WQ R s v w → w < g v → v < 12 → ∃ y, y < 12 ∧ (∃ w', WQ R s y w' ∧ w' < g y) ∧ ∀ w', WQ R s y w' → g' y ≤ w' := by
  intro q
  induction q with
  | zero => intro w v h; omega
  | succ q ih =>
    intro w v hq hw hlt hv
    by_cases hm : ∃ v' w', w' < w ∧ v' < 12 ∧ WQ R s v' w' ∧ w' < g v'
    · obtain ⟨v', w', a, b, c, d⟩ := hm
      exact ih w' v' (by omega) c d b
    · obtain ⟨n, hn⟩ := hw
      cases n with
      | zero =>
        obtain ⟨a, b⟩ := hn
        subst a; omega
      | succ n =>
        obtain ⟨x, w', w2, a, b, c⟩ := Wq.last hn
        obtain ⟨hx, -, hl⟩ := hR x v w2 b
        have hgx : g x ≤ w' := by
          rcases Nat.lt_or_ge w' (g x) with z | z
          · exact absurd ⟨x, w', by omega, hx, ⟨n, a⟩, z⟩ hm
          · exact z
        have hgv := hb v hv
        have h4 := h3 x v w2 b (by omega)
        refine ⟨v, hv, ⟨w, ⟨n + 1, hn⟩, hlt⟩, fun w2 h2 => ?_⟩
        rcases Nat.lt_or_ge w2 w with z | z
        · exact absurd ⟨v, w2, z, hv, h2, by omega⟩ hm
        · omega
section
variable {k : cx} {S S1 S2 T : hs} {m m' : Nat → Int32} {l : Lz} {E : Nat → Nat → Bool}
theorem gE_u {v c x : Nat} (h : c < 2147483648) : gE (uI T 203 v (iN c)) x = if x = v then c else gE T x := by
  unfold gE
  rw [gI_u]
  by_cases z : x = v
  · rw [if_pos ⟨rfl, z⟩, if_pos z, iN_c h]
  · rw [if_neg (fun y => z y.2), if_neg z]
theorem n203 {a : Nat} (h : a ≠ 203) : ¬ (fun q : Nat => q = 203) a := h
theorem f203 (h : Fr (fun q => q = 203) S T) : Fr Scr S T := h.mono (fun a z => by have z : a = 203 := z; unfold Scr; omega)
theorem fe42_l {s : Nat} {x2 : Int32} {K : hs → Int32 → Option (Int32 × hs)} {T0 : hs} : ∀ (r v n : Nat) (T : hs), Tn T m → Fe T (Rc1 m) s → (∀ c, c < 12 → gE T c ≤ gE T0 c) → (∀ x, x < v → cIs m x = true → gE T (enn m x) ≤ gE T0 (bgn m x) + lNg m x) → v + r = 40 → r < n → ∃ U, lp_M_findFree_42 x2 K n T (iN v) = K U (iN 40) ∧ Fr (fun q => q = 203) T U ∧ Fe U (Rc1 m) s ∧ (∀ c, c < 12 → gE U c ≤ gE T0 c) ∧ ∀ x, cIs m x = true → gE U (enn m x) ≤ gE T0 (bgn m x) + lNg m x := by
  intro r
  induction r with
  | zero =>
    intro v n T hT hF h1 h2 hv hn
    obtain ⟨n, rfl⟩ : ∃ q, n = q + 1 := ⟨n - 1, by omega⟩
    obtain rfl : v = 40 := by omega
    have hss := hT.1.s.2
    exact ⟨T, by rw [lp_M_findFree_42, if_pos i40e], Fr.rfl', hF, h1, fun x cx => h2 x (by have := cIs_lt cx; omega) cx⟩
  | succ r ih =>
    intro v n T hT hF h1 h2 hv hn
    obtain ⟨n, rfl⟩ : ∃ q, n = q + 1 := ⟨n - 1, by omega⟩
    have hss := hT.1.s.2
    have hcc := hT.1.c.2
    rw [lp_M_findFree_42, if_neg (i40 (by omega)), pM_isCourse hT, cIx_n (by omega), bd_s, if_bI, iN_1]
    cases cv : cIs m v with
    | false =>
      rw [bt_f]
      exact ih (v + 1) n T hT hF h1 (fun x hx cx => by
        by_cases z : x = v
        · subst z; rw [cv] at cx; exact absurd cx (by decide)
        · exact h2 x (by omega) cx) (by omega) (by omega)
    | true =>
      have hv2 := cIs_lt cv
      have lb := bgn_lt hT.1 hv2
      have le := enn_lt hT.1 hv2
      have lv := lNg_r hT.1 hv2
      have ne := be_ne hT.1 hv2
      obtain ⟨b1, b2⟩ := hF.1 (bgn m v) (by omega)
      obtain ⟨c1, c2⟩ := hF.1 (enn m v) (by omega)
      have h1b := h1 (bgn m v) (by omega)
      have h1e := h1 (enn m v) (by omega)
      have i100 : (100000 : Int32) = iN 100000 := rfl
      rw [bt_t, pM_beginOf hT hv2, bd_s, ck_of (iN_b (by omega) (by decide)), iN_c (by omega), b1, i100]
      by_cases q : 100000 ≤ gE T (bgn m v)
      · rw [if_pos ((iN_le (by omega) (by omega)).mpr q)]
        exact ih (v + 1) n T hT hF h1 (fun x hx cx => by
          by_cases z : x = v
          · subst z; omega
          · exact h2 x (by omega) cx) (by omega) (by omega)
      · have lo : f_M_longOf T (iN v / (2 : Int32)) = some (iN (lNg m v), T) := by rw [iN_d2 (by omega)]; exact pM_longOf hT (half_lt hv2)
        rw [if_neg (fun z => q ((iN_le (by omega) (by omega)).mp z)), pM_endOf hT hv2, bd_s, pM_endOf hT hv2, bd_s, ck_of (iN_b (by omega) (by decide)), pM_beginOf hT hv2, bd_s, ck_of (iN_b (by omega) (by decide)), lo, bd_s, iN_c (by omega), iN_c (by omega), c1, b1, iN_a, pMin2 (by omega) (by omega), bd_s, ck_of (iN_b (by omega) (by decide))]
        have ml := mn2_l (gE T (enn m v)) (gE T (bgn m v) + lNg m v)
        generalize hM : mn2 (gE T (enn m v)) (gE T (bgn m v) + lNg m v) = M at ml
        have gu : ∀ x, gE (uI T 203 (enn m v) (iN M)) x = if x = enn m v then M else gE T x := fun x => gE_u (by omega)
        have f1 : Fr (fun q => q = 203) T (uI T 203 (enn m v) (iN M)) := Fr.rfl'.uI rfl
        have gle : ∀ x, gE (uI T 203 (enn m v) (iN M)) x ≤ gE T x := fun x => by
          rw [gu x]
          split
          · rename_i z; subst z; omega
          · omega
        obtain ⟨U, a1, a2, a3⟩ := ih (v + 1) n (uI T 203 (enn m v) (iN M)) (hT.fr f1 (n203 (by decide))) ⟨fun x hx => by
            rw [gu x, gI_u]
            by_cases z : x = enn m v
            · rw [if_pos ⟨rfl, z⟩, if_pos z]; exact ⟨rfl, by omega⟩
            · rw [if_neg (fun y => z y.2), if_neg z]; exact hF.1 x hx, by have := gle s; have := hF.2.1; omega, fun x hx hlt => by
            rw [gu x] at hlt ⊢
            by_cases z : x = enn m v
            · subst z
              rw [if_pos rfl] at hlt ⊢
              rcases ml.2.2 with y | y
              · rw [y] at hlt ⊢; exact hF.2.2 _ hx hlt
              · rw [y]; exact (hF.2.2 (bgn m v) (by omega) (by omega)).trans (WQ.one ⟨v, cv, rfl, rfl, rfl⟩)
            · rw [if_neg z] at hlt ⊢; exact hF.2.2 x hx hlt⟩ (fun c hc => Nat.le_trans (gle c) (h1 c hc)) (fun x hx cx => by
            by_cases z : x = v
            · subst z
              rw [gu, if_pos rfl]; omega
            · exact Nat.le_trans (gle _) (h2 x (by omega) cx)) (by omega) (by omega)
        exact ⟨U, a1, f1.trans a2, a3⟩
noncomputable def fnq (T : hs) (R : Nat → Nat → Nat → Prop) (s v : Nat) : Bool := @decide (∀ w, WQ R s v w → gE T v ≤ w) (Classical.propDecidable _)
theorem fnq_y {R : Nat → Nat → Nat → Prop} {s v : Nat} : fnq T R s v = true ↔ ∀ w, WQ R s v w → gE T v ≤ w := by unfold fnq; exact @decide_eq_true_iff _ (Classical.propDecidable _)
theorem Rc1_r (v0 : VM m) {a b w : Nat} (h : Rc1 m a b w) : a < nCr m ∧ b < nCr m ∧ 1 ≤ w := by
  obtain ⟨v, cv, rfl, rfl, rfl⟩ := h
  have hv := cIs_lt cv
  exact ⟨bgn_lt v0 hv, enn_lt v0 hv, (lNg_r v0 hv).1⟩
theorem fe34_l {s : Nat} : ∀ (r i n : Nat) (T : hs), Tn T m → Fe T (Rc1 m) s → i ≤ cnt (fnq T (Rc1 m) s) 12 → i + r = 12 → r < n → ∃ U, lp_M_findFree_34 n T (iN i) = some (0, U) ∧ Fr (fun q => q = 203) T U ∧ Fe U (Rc1 m) s ∧ ∀ c, c < 12 → ∀ w, WQ (Rc1 m) s c w → gE U c ≤ w := by
  intro r
  induction r with
  | zero =>
    intro i n T hT hF hc hi hn
    obtain ⟨n, rfl⟩ : ∃ q, n = q + 1 := ⟨n - 1, by omega⟩
    obtain rfl : i = 12 := by omega
    exact ⟨T, by rw [lp_M_findFree_34, if_pos i12e], Fr.rfl', hF, fun c hc2 => fnq_y.mp (cnt_full hc hc2)⟩
  | succ r ih =>
    intro i n T hT hF hc hi hn
    obtain ⟨n, rfl⟩ : ∃ q, n = q + 1 := ⟨n - 1, by omega⟩
    have hcc := hT.1.c.2
    rw [lp_M_findFree_34, if_neg (i12 (by omega))]
    obtain ⟨U, d1, d2, d3, d4, d5⟩ := fe42_l (s := s) (T0 := T) (x2 := iN i) (K := fun (S36 : hs) (y37 : Int32) => lp_M_findFree_34 n S36 (iN i + (1 : Int32))) 40 0 1000 T hT hF (fun _ _ => Nat.le_refl _) (fun x hx => by omega) (by omega) (by omega)
    have mono : ∀ x, x < 12 → fnq T (Rc1 m) s x = true → fnq U (Rc1 m) s x = true := fun z hz hf => fnq_y.mpr (fun w hw => Nat.le_trans (d4 z hz) (fnq_y.mp hf w hw))
    have hcU : i + 1 ≤ cnt (fnq U (Rc1 m) s) 12 := by
      by_cases hall : ∃ x, x < 12 ∧ fnq T (Rc1 m) s x = false
      · obtain ⟨x, hx, hfx⟩ := hall
        have : ∃ w, WQ (Rc1 m) s x w ∧ w < gE T x := by
          refine Classical.byContradiction fun no => ?_
          have : fnq T (Rc1 m) s x = true := fnq_y.mpr (fun w hw => by
            rcases Nat.lt_or_ge w (gE T x) with z | z
            · exact absurd ⟨w, hw, z⟩ no
            · exact z)
          rw [this] at hfx; exact absurd hfx (by decide)
        obtain ⟨w, w1, w2⟩ := this
        obtain ⟨y, y1, ⟨w', y2, y3⟩, y4⟩ := fin_q (R := Rc1 m) (g := gE T) (g' := gE U) (s := s) hF.2.1 (fun u v w h => by have := Rc1_r hT.1 h; omega) (fun v hv => (hF.1 v hv).2) (fun x v w h _ => by obtain ⟨q, cq, rfl, rfl, rfl⟩ := h; exact d5 q cq) (w + 1) w x (by omega) w1 w2 hx
        have := cnt_lt (n := 12) mono ⟨y, y1, Bool.eq_false_iff.mpr (fun z => by have := fnq_y.mp z w' y2; omega), fnq_y.mpr y4⟩
        omega
      · have full : ∀ x, x < 12 → (fun _ => true : Nat → Bool) x = true → fnq U (Rc1 m) s x = true := fun x hx _ => mono x hx (by
          cases hq : fnq T (Rc1 m) s x with
          | true => rfl
          | false => exact absurd ⟨x, hx, hq⟩ hall)
        have := cnt_mono (n := 12) full
        have e : cnt (fun _ => true) 12 = 12 := by decide
        omega
    obtain ⟨V, a1, a2, a3⟩ := ih (i + 1) n U (hT.fr d2 (n203 (by decide))) d3 hcU (by omega) (by omega)
    refine ⟨V, Eq.trans d1 ?_, d2.trans a2, a3⟩
    show lp_M_findFree_34 n U (iN i + (1 : Int32)) = _
    rw [iN_1]; exact a1
theorem fe2_l {s : Nat} (hs12 : s < 12) {K : hs → Int32 → Option (Int32 × hs)} : ∀ (r u n : Nat) (T : hs), (∀ x, x < u → gI T 203 x = if x = s then 0 else 100000) → u + r = 12 → r < n → ∃ U, lp_M_findFree_2 (iN s) K n T (iN u) = K U (iN 12) ∧ Fr (fun q => q = 203) T U ∧ ∀ x, x < 12 → gI U 203 x = if x = s then 0 else 100000 := by
  intro r
  induction r with
  | zero =>
    intro u n T hd hu hn
    obtain ⟨n, rfl⟩ : ∃ q, n = q + 1 := ⟨n - 1, by omega⟩
    obtain rfl : u = 12 := by omega
    exact ⟨T, by rw [lp_M_findFree_2, if_pos i12e], Fr.rfl', hd⟩
  | succ r ih =>
    intro u n T hd hu hn
    obtain ⟨n, rfl⟩ : ∃ q, n = q + 1 := ⟨n - 1, by omega⟩
    have go : ∀ v : Int32, v = (if u = s then 0 else 100000) → ∃ U, lp_M_findFree_2 (iN s) K n (uI T 203 u v) (iN (u + 1)) = K U (iN 12) ∧ Fr (fun q => q = 203) T U ∧ ∀ x, x < 12 → gI U 203 x = if x = s then 0 else 100000 := by
      intro v hv
      have f1 : Fr (fun q => q = 203) T (uI T 203 u v) := Fr.rfl'.uI rfl
      obtain ⟨U, h1, h2, h3⟩ := ih (u + 1) n (uI T 203 u v) (fun x hx => by
        rw [gI_u]
        by_cases z : x = u
        · subst z; rw [if_pos ⟨rfl, rfl⟩]; exact hv
        · rw [if_neg (fun y => z y.2)]; exact hd x (by omega)) (by omega) (by omega)
      exact ⟨U, h1, f1.trans h2, h3⟩
    rw [lp_M_findFree_2, if_neg (i12 (by omega))]
    by_cases q : u = s
    · rw [if_pos (by rw [q]), ck_of (iN_b (by omega) (by decide)), iN_c (by omega), iN_1]; exact go _ (by rw [if_pos q])
    · rw [if_neg (fun z => q ((iN_eq (by omega) (by omega)).mp z)), ck_of (iN_b (by omega) (by decide)), iN_c (by omega), iN_1]; exact go _ (by rw [if_neg q])
theorem pM_findFree {s : Nat} (hs12 : s < 12) (hT : Tn T m) : ∃ U, f_M_findFree T (iN s) = some (0, U) ∧ Fr (fun q => q = 203) T U ∧ Fe U (Rc1 m) s ∧ ∀ c, c < 12 → ∀ w, WQ (Rc1 m) s c w → gE U c ≤ w := by
  obtain ⟨V, h1, h2, h3⟩ := fe2_l hs12 (K := fun (S5 : hs) (y6 : Int32) => lp_M_findFree_34 1000 S5 (0 : Int32)) 12 0 1000 T (fun x hx => by omega) (by omega) (by omega)
  have gV : ∀ x, x < 12 → gE V x = if x = s then 0 else 100000 := fun x hx => by unfold gE; rw [h3 x hx]; split <;> rfl
  obtain ⟨U, a1, a2, a3⟩ := fe34_l (s := s) 12 0 1000 V (hT.fr h2 (n203 (by decide))) ⟨fun x hx => by
      rw [gV x hx, h3 x hx]
      split
      · exact ⟨rfl, by omega⟩
      · exact ⟨rfl, by omega⟩, by rw [gV s hs12, if_pos rfl], fun x hx hlt => by
      rw [gV x hx] at hlt ⊢
      by_cases z : x = s
      · subst z; rw [if_pos rfl]; exact WQ.rfl'
      · rw [if_neg z] at hlt; omega⟩ (by omega) (by omega) (by omega)
  exact ⟨U, Eq.trans h1 a1, h2.trans a2, a3⟩
theorem free_cmp {U : hs} {D : Nat → Nat → Nat} (v0 : VM m) (hD : TbG (Rc1 m) D (nCr m)) {s c : Nat} (hc : c < 12) (hF : Fe U (Rc1 m) s) (hA : ∀ c, c < 12 → ∀ w, WQ (Rc1 m) s c w → gE U c ≤ w) : (D s c = gE U c ∧ gE U c ≤ 73728) ∨ (D s c = 1000000 ∧ gE U c = 100000) := by
  have hcc := v0.c.2
  have hp : 2 ^ nCr m ≤ 2 ^ 12 := Nat.pow_le_pow_right (by decide) hcc
  have e12 : 2 ^ 12 = 4096 := by decide
  have hb := hD.2.1 s c
  have hg := (hF.1 c hc).2
  have hup : gE U c < 100000 → D s c ≤ gE U c := fun h => by
    obtain ⟨n, hw⟩ := hF.2.2 c hc h
    exact hD.min (fun a b w r => (Rc1_r v0 r).2.1) hw
  by_cases q : D s c < 1000000
  · obtain ⟨a, b⟩ := hD.2.2.2.1 s c q
    have := hA c hc _ b
    have := hup (by omega)
    exact Or.inl ⟨by omega, by omega⟩
  · refine Or.inr ⟨by omega, ?_⟩
    rcases Nat.lt_or_ge (gE U c) 100000 with z | z
    · have := hup z; omega
    · omega
theorem q_free (h : Inv k S) (x y : Int32) : Q2 k S (f_X_free S x y) (fun T => f_M_free T x y) := by
  obtain ⟨m, l, ht⟩ := h.1
  have hc := ht.1
  have hn := ht.2.1
  have v0 := hc.1
  have hcc := v0.c.2
  by_cases q : 0 ≤ x.toInt ∧ x.toInt < (nCr m : Int)
  · by_cases q' : 0 ≤ y.toInt ∧ y.toInt < (nCr m : Int)
    · obtain ⟨a, rfl, ha, ea⟩ := iN_of q.1
      obtain ⟨b, rfl, hb, eb⟩ := iN_of q'.1
      obtain ⟨T0, l1, l2⟩ := pW_look hc
      have f0 : Fr Scr S T0 := l2.1.mono (fun a z => by unfold WyP at z; unfold Scr; omega)
      obtain ⟨T1, D, m1, m2, m3, m4⟩ := pW_measureFreely v0 l2.F
      have f1 := f0.trans (p47S m2)
      have ht1 := ht.fr f1
      obtain ⟨T2, n1, n2, n3, n4⟩ := pM_findFree (s := a) (by omega) ht1.2.1
      have e1 := m3 a b (by omega) (by omega)
      have e2 := (n3.1 b (by omega)).1
      rcases free_cmp v0 m4 (c := b) (by omega) n3 n4 with ⟨c1, c2⟩ | ⟨c1, c2⟩
      · refine Q2.fr (r := iN (D a b)) h (S1 := T1) (S2 := T2) ?_ ?_ f1 (f203 n2)
        · unfold f_X_free
          rw [hC_y hc q, bd_s, if_neg (by decide), hC_y hc q', bd_s, if_neg (by decide), l1, bd_s, m1, bd_s, ck_of (iN_b (by omega) (by decide)), ck_of (iN_b (by omega) (by decide)), iN_c (by omega), iN_c (by omega), e1, if_neg (ne6 (by omega) (by omega))]
        · show f_M_free T1 _ _ = _
          unfold f_M_free
          rw [mC_y ht1.2.1 q, bd_s, if_neg (by decide), mC_y ht1.2.1 q', bd_s, if_neg (by decide), n1, bd_s, ck_of (iN_b (by omega) (by decide)), iN_c (by omega), e2, if_pos (lt5 (by omega)), c1]
      · refine Q2.fr (r := -3) h (S1 := T1) (S2 := T2) ?_ ?_ f1 (f203 n2)
        · unfold f_X_free
          rw [hC_y hc q, bd_s, if_neg (by decide), hC_y hc q', bd_s, if_neg (by decide), l1, bd_s, m1, bd_s, ck_of (iN_b (by omega) (by decide)), ck_of (iN_b (by omega) (by decide)), iN_c (by omega), iN_c (by omega), e1, c1, if_pos eq6]
        · show f_M_free T1 _ _ = _
          unfold f_M_free
          rw [mC_y ht1.2.1 q, bd_s, if_neg (by decide), mC_y ht1.2.1 q', bd_s, if_neg (by decide), n1, bd_s, ck_of (iN_b (by omega) (by decide)), iN_c (by omega), e2, c2, if_neg (by decide)]
    · refine Q2.same (r := -1) h ?_ ?_
      · unfold f_X_free
        rw [hC_y hc q, bd_s, if_neg (by decide), hC_n hc q', bd_s, if_pos rfl]
      · show f_M_free S _ _ = _
        unfold f_M_free
        rw [mC_y hn q, bd_s, if_neg (by decide), mC_n hn q', bd_s, if_pos rfl]
  · refine Q2.same (r := -1) h ?_ ?_
    · unfold f_X_free
      rw [hC_n hc q, bd_s, if_pos rfl]
    · show f_M_free S _ _ = _
      unfold f_M_free
      rw [mC_n hn q, bd_s, if_pos rfl]
end
