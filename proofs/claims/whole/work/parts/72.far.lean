/-! How far, in the model; and that both are one. -/
def gF (T : hs) (v : Nat) : Nat := (gI T 202 v).toNatClampNeg
def fOk (T : hs) : Prop := ∀ v, v < 40 → gI T 202 v = iN (gF T v) ∧ gF T v ≤ 100000
def Fi (T : hs) (G : Nat → Nat → Bool) (ln : Nat → Nat) (s : Nat) : Prop := fOk T ∧ gF T s = 0 ∧ ∀ v, v < 40 → gF T v < 100000 → WS G ln s v (gF T v)
theorem WS.min0 {G : Nat → Nat → Bool} {ln g : Nat → Nat} (hC : ∀ u v, G u v = true → g v ≤ g u + ln v) : ∀ {n u v w : Nat}, Wk G ln n u v w → g v ≤ g u + w
  | 0, u, v, w, ⟨h1, h2⟩ => by subst h1; omega
  | n + 1, u, v, w, ⟨x, w', h1, h2, h3⟩ => by
    have := WS.min0 hC h2
    have := hC u x h1
    omega
/-- what one pass makes sure -/
theorem fin_step {G : Nat → Nat → Bool} {ln g g' : Nat → Nat} {s : Nat} (h0 : g s = 0) (hln : ∀ u v, G u v = true → u < 40 ∧ v < 40 ∧ 1 ≤ ln v) (hb : ∀ v, v < 40 → g v ≤ 100000) (h3 : ∀ x v, G x v = true → g x < 100000 → g' v ≤ g x + ln v) : ∀ (q w v : Nat), w < q → WS G ln s v w → w < g v → v < 40 → ∃ y, y < 40 ∧ (∃ w', WS G ln s y w' ∧ w' < g y) ∧ ∀ w', WS G ln s y w' → g' y ≤ w' := by
  intro q
  induction q with
  | zero => intro w v h; omega
  | succ q ih =>
    intro w v hq hw hlt hv
    by_cases hm : ∃ v' w', w' < w ∧ v' < 40 ∧ WS G ln s v' w' ∧ w' < g v'
    · obtain ⟨v', w', a, b, c, d⟩ := hm
      exact ih w' v' (by omega) c d b
    · obtain ⟨n, hn⟩ := hw
      cases n with
      | zero =>
        obtain ⟨a, b⟩ := hn
        subst a; omega
      | succ n =>
        obtain ⟨x, w', a, b, c⟩ := Wk.last hn
        obtain ⟨hx, -, hl⟩ := hln x v b
        have hgx : g x ≤ w' := by
          rcases Nat.lt_or_ge w' (g x) with z | z
          · exact absurd ⟨x, w', by omega, hx, ⟨n, a⟩, z⟩ hm
          · exact z
        have hgv := hb v hv
        have h4 := h3 x v b (by omega)
        refine ⟨v, hv, ⟨w, ⟨n + 1, hn⟩, hlt⟩, fun w2 h2 => ?_⟩
        rcases Nat.lt_or_ge w2 w with z | z
        · exact absurd ⟨v, w2, z, hv, h2, by omega⟩ hm
        · omega
/-- the flag of a pass -/
def chF (ch ch0 : Int32) (g g0 : Nat → Nat) : Prop := (ch = ch0 ∧ ∀ x, x < 40 → g x = g0 x) ∨ (ch = 1 ∧ ∃ x, x < 40 ∧ g x < g0 x)
section
variable {k : cx} {S S1 S2 T : hs} {m m' : Nat → Int32} {l : Lz} {G : Nat → Nat → Bool}
theorem gF_u {v c x : Nat} (h : c < 2147483648) : gF (uI T 202 v (iN c)) x = if x = v then c else gF T x := by
  unfold gF
  rw [gI_u]
  by_cases z : x = v
  · rw [if_pos ⟨rfl, z⟩, if_pos z, iN_c h]
  · rw [if_neg (fun y => z y.2), if_neg z]
theorem On.fr {P : Nat → Prop} {E : Nat → Nat → Bool} (h : On S E) (f : Fr P S T) (q : ¬ P 201) : On T E := fun u hu v hv => by rw [(f 201 q).2 u]; exact h u hu v hv
theorem n202 {a : Nat} (h : a ≠ 202) : ¬ (fun q : Nat => q = 202) a := h
theorem ff51_l (hG : ∀ u v, G u v = true → u < 2 * nSt m ∧ v < 2 * nSt m) {s a : Nat} (ha : a < 40) {K : hs → Int32 → Int32 → Option (Int32 × hs)} : ∀ (r v n : Nat) (T : hs) (ch : Int32), Tn T m → On T G → Fi T G (lNg m) s → v + r = 40 → r < n → (∀ x, x < v → G a x = true → gF T x ≤ gF T a + lNg m x) → ∃ U ch' y, lp_M_findFar_51 (iN a) K n T ch (iN v) = K U ch' y ∧ Fr (fun q => q = 202) T U ∧ Fi U G (lNg m) s ∧ (∀ x, x < 40 → gF U x ≤ gF T x) ∧ (∀ x, G a x = true → gF U x ≤ gF T a + lNg m x) ∧ chF ch' ch (gF U) (gF T) := by
  intro r
  induction r with
  | zero =>
    intro v n T ch hT hO hF hv hn hr
    obtain ⟨n, rfl⟩ : ∃ q, n = q + 1 := ⟨n - 1, by omega⟩
    obtain rfl : v = 40 := by omega
    have hss := hT.1.s.2
    exact ⟨T, ch, iN 40, by rw [lp_M_findFar_51, if_pos i40e], Fr.rfl', hF, fun x _ => Nat.le_refl _, fun x h => hr x (by have := (hG a x h).2; omega) h, Or.inl ⟨rfl, fun _ _ => rfl⟩⟩
  | succ r ih =>
    intro v n T ch hT hO hF hv hn hr
    obtain ⟨n, rfl⟩ : ∃ q, n = q + 1 := ⟨n - 1, by omega⟩
    have hss := hT.1.s.2
    obtain ⟨a1, a2⟩ := hF.1 a ha
    obtain ⟨b1, b2⟩ := hF.1 v (by omega)
    have i100 : (100000 : Int32) = iN 100000 := rfl
    rw [lp_M_findFar_51, if_neg (i40 (by omega)), ck_of (iN_b (by omega) (by decide)), iN_c (by omega), a1, i100]
    by_cases q : 100000 ≤ gF T a
    · rw [if_pos ((iN_le (by omega) (by omega)).mpr q)]
      refine ⟨T, ch, iN v, rfl, Fr.rfl', hF, fun x _ => Nat.le_refl _, fun x h => ?_, Or.inl ⟨rfl, fun _ _ => rfl⟩⟩
      have := (hF.1 x (by have := (hG a x h).2; omega)).2
      omega
    · rw [if_neg (fun z => q ((iN_le (by omega) (by omega)).mp z)), pM_hasBit (by omega), bd_s, if_bI, hO a ha v (by omega), iN_1]
      have d40 : decide (v < 40) = true := decide_eq_true (by omega)
      rw [d40, Bool.true_and]
      have keep : (G a v = true → gF T v ≤ gF T a + lNg m v) → ∃ U ch' y, lp_M_findFar_51 (iN a) K n T ch (iN (v + 1)) = K U ch' y ∧ Fr (fun q => q = 202) T U ∧ Fi U G (lNg m) s ∧ (∀ x, x < 40 → gF U x ≤ gF T x) ∧ (∀ x, G a x = true → gF U x ≤ gF T a + lNg m x) ∧ chF ch' ch (gF U) (gF T) := fun no =>
        ih (v + 1) n T ch hT hO hF (by omega) (by omega) (fun x hx gx => by
          by_cases z : x = v
          · subst z; exact no gx
          · exact hr x (by omega) gx)
      cases g : G a v with
      | false => rw [bt_f]; exact keep (fun z => by rw [g] at z; exact absurd z (by decide))
      | true =>
        have hv2 := (hG a v g).2
        have lv := lNg_r hT.1 hv2
        have lo : f_M_longOf T (iN v / (2 : Int32)) = some (iN (lNg m v), T) := by rw [iN_d2 (by omega)]; exact pM_longOf hT (half_lt hv2)
        rw [bt_t, lo, bd_s, ck_of (iN_b (by omega) (by decide)), iN_c (by omega), b1, a1, iN_a]
        by_cases q2 : gF T v ≤ gF T a + lNg m v
        · rw [if_pos ((iN_le (by omega) (by omega)).mpr q2)]
          exact keep (fun _ => q2)
        · rw [if_neg (fun z => q2 ((iN_le (by omega) (by omega)).mp z)), lo, bd_s, iN_a]
          have hva : a ≠ v := fun z => by subst z; omega
          have hvs : s ≠ v := fun z => by subst z; have := hF.2.1; omega
          have f1 : Fr (fun q => q = 202) T (uI T 202 v (iN (gF T a + lNg m v))) := Fr.rfl'.uI rfl
          have gu : ∀ x, gF (uI T 202 v (iN (gF T a + lNg m v))) x = if x = v then gF T a + lNg m v else gF T x := fun x => gF_u (by omega)
          have ga : gF (uI T 202 v (iN (gF T a + lNg m v))) a = gF T a := by rw [gu, if_neg hva]
          obtain ⟨U, ch', y, c1, c2, c3, c4, c5, c6⟩ := ih (v + 1) n (uI T 202 v (iN (gF T a + lNg m v))) 1 (hT.fr f1 (n202 (by decide))) (hO.fr f1 (n202 (by decide))) ⟨fun x hx => by
              rw [gu x, gI_u]
              by_cases z : x = v
              · rw [if_pos ⟨rfl, z⟩, if_pos z]; exact ⟨rfl, by omega⟩
              · rw [if_neg (fun y => z y.2), if_neg z]; exact hF.1 x hx, by rw [gu, if_neg hvs]; exact hF.2.1, fun x hx hlt => by
              rw [gu x] at hlt ⊢
              by_cases z : x = v
              · subst z
                rw [if_pos rfl]
                exact (hF.2.2 a ha (by omega)).snoc g
              · rw [if_neg z] at hlt ⊢; exact hF.2.2 x hx hlt⟩ (by omega) (by omega) (fun x hx gx => by
              rw [gu x, ga]
              by_cases z : x = v
              · subst z; rw [if_pos rfl]; omega
              · rw [if_neg z]; exact hr x (by omega) gx)
          refine ⟨U, ch', y, c1, f1.trans c2, c3, fun x hx => ?_, fun x gx => by have := c5 x gx; rw [ga] at this; exact this, Or.inr ⟨?_, v, by omega, ?_⟩⟩
          · have := c4 x hx
            rw [gu x] at this
            split at this
            · rename_i z; subst z; omega
            · exact this
          · rcases c6 with c6 | c6
            · exact c6.1
            · exact c6.1
          · have := c4 v (by omega)
            rw [gu v, if_pos rfl] at this
            omega
theorem ff42_l (hG : ∀ u v, G u v = true → u < 2 * nSt m ∧ v < 2 * nSt m) {s : Nat} {K : hs → Int32 → Int32 → Option (Int32 × hs)} {T0 : hs} : ∀ (r a n : Nat) (T : hs) (ch : Int32), Tn T m → On T G → Fi T G (lNg m) s → a + r = 40 → r < n → (∀ u x, u < a → G u x = true → gF T x ≤ gF T0 u + lNg m x) → (∀ x, x < 40 → gF T x ≤ gF T0 x) → chF ch 0 (gF T) (gF T0) → ∃ U ch', lp_M_findFar_42 K n T ch (iN a) = K U ch' (iN 40) ∧ Fr (fun q => q = 202) T U ∧ Fi U G (lNg m) s ∧ (∀ x, x < 40 → gF U x ≤ gF T0 x) ∧ (∀ u x, G u x = true → gF U x ≤ gF T0 u + lNg m x) ∧ chF ch' 0 (gF U) (gF T0) := by
  intro r
  induction r with
  | zero =>
    intro a n T ch hT hO hF hv hn hr hle hc
    obtain ⟨n, rfl⟩ : ∃ q, n = q + 1 := ⟨n - 1, by omega⟩
    obtain rfl : a = 40 := by omega
    have hss := hT.1.s.2
    exact ⟨T, ch, by rw [lp_M_findFar_42, if_pos i40e], Fr.rfl', hF, hle, fun u x h => hr u x (by have := (hG u x h).1; omega) h, hc⟩
  | succ r ih =>
    intro a n T ch hT hO hF hv hn hr hle hc
    obtain ⟨n, rfl⟩ : ∃ q, n = q + 1 := ⟨n - 1, by omega⟩
    have hss := hT.1.s.2
    rw [lp_M_findFar_42, if_neg (i40 (by omega))]
    obtain ⟨V, c1, y, b1, b2, b3, b4, b5, b6⟩ := ff51_l hG (s := s) (a := a) (by omega) (K := fun (S24 : hs) (y25 : Int32) (y26 : Int32) => lp_M_findFar_42 K n S24 y25 (iN a + (1 : Int32))) 40 0 1000 T ch hT hO hF (by omega) (by omega) (fun x hx => by omega)
    obtain ⟨U, c2, d1, d2, d3, d4, d5, d6⟩ := ih (a + 1) n V c1 (hT.fr b2 (n202 (by decide))) (hO.fr b2 (n202 (by decide))) b3 (by omega) (by omega) (fun u x hu gx => by
        have hx := (hG u x gx).2
        have e1 := b4 x (by omega)
        have e3 := hle a (by omega)
        by_cases z : u = a
        · subst z
          have := b5 x gx
          omega
        · have := hr u x (by omega) gx
          omega) (fun x hx => Nat.le_trans (b4 x hx) (hle x hx)) (by
        rcases b6 with ⟨p1, p2⟩ | ⟨p1, x, p2, p3⟩
        · rcases hc with ⟨q1, q2⟩ | ⟨q1, y, q2, q3⟩
          · exact Or.inl ⟨p1.trans q1, fun x hx => (p2 x hx).trans (q2 x hx)⟩
          · exact Or.inr ⟨p1.trans q1, y, q2, by rw [p2 y q2]; exact q3⟩
        · exact Or.inr ⟨p1, x, p2, by have := hle x p2; omega⟩)
    refine ⟨U, c2, Eq.trans b1 ?_, b2.trans d2, d3, d4, d5, d6⟩
    show lp_M_findFar_42 K n V c1 (iN a + (1 : Int32)) = _
    rw [iN_1]; exact d1
/-- sure values -/
noncomputable def fnl (T : hs) (G : Nat → Nat → Bool) (ln : Nat → Nat) (s v : Nat) : Bool := @decide (∀ w, WS G ln s v w → gF T v ≤ w) (Classical.propDecidable _)
theorem fnl_y {ln : Nat → Nat} {s v : Nat} : fnl T G ln s v = true ↔ ∀ w, WS G ln s v w → gF T v ≤ w := by unfold fnl; exact @decide_eq_true_iff _ (Classical.propDecidable _)
theorem ff34_l (hG : ∀ u v, G u v = true → u < 2 * nSt m ∧ v < 2 * nSt m) {s : Nat} : ∀ (r n : Nat) (T : hs), Tn T m → On T G → Fi T G (lNg m) s → 40 ≤ cnt (fnl T G (lNg m) s) 40 + r → r + 1 < n → ∃ U, lp_M_findFar_34 n T (1 : Int32) = some (0, U) ∧ Fr (fun q => q = 202) T U ∧ Fi U G (lNg m) s ∧ ∀ u x, G u x = true → gF U x ≤ gF U u + lNg m x := by
  intro r
  induction r with
  | zero =>
    intro n T hT hO hF hc hn
    obtain ⟨n, rfl⟩ : ∃ q, n = q + 1 + 1 := ⟨n - 2, by omega⟩
    have hss := hT.1.s.2
    rw [lp_M_findFar_34, if_neg (by decide)]
    obtain ⟨U, c2, d1, d2, d3, d4, d5, d6⟩ := ff42_l hG (s := s) (T0 := T) (K := fun (S27 : hs) (y28 : Int32) (y29 : Int32) => lp_M_findFar_34 (n + 1) S27 y28) 40 0 1000 T 0 hT hO hF (by omega) (by omega) (fun u x hu => by omega) (fun x _ => Nat.le_refl _) (Or.inl ⟨rfl, fun _ _ => rfl⟩)
    rcases d6 with ⟨p1, p2⟩ | ⟨p1, x, p2, p3⟩
    · subst p1
      refine ⟨U, Eq.trans d1 ?_, d2, d3, fun u x gx => ?_⟩
      · show lp_M_findFar_34 (n + 1) U 0 = _
        rw [lp_M_findFar_34, if_pos rfl]
      · have := d5 u x gx
        rw [p2 u (by have := (hG u x gx).1; omega)]
        exact this
    · have hb := (hF.1 x p2).2
      have := fnl_y.mp (cnt_full (p := fnl T G (lNg m) s) (n := 40) (by omega) p2) _ (d3.2.2 x p2 (by omega))
      omega
  | succ r ih =>
    intro n T hT hO hF hc hn
    obtain ⟨n, rfl⟩ : ∃ q, n = q + 1 + 1 := ⟨n - 2, by omega⟩
    have hss := hT.1.s.2
    rw [lp_M_findFar_34, if_neg (by decide)]
    obtain ⟨U, c2, d1, d2, d3, d4, d5, d6⟩ := ff42_l hG (s := s) (T0 := T) (K := fun (S27 : hs) (y28 : Int32) (y29 : Int32) => lp_M_findFar_34 (n + 1) S27 y28) 40 0 1000 T 0 hT hO hF (by omega) (by omega) (fun u x hu => by omega) (fun x _ => Nat.le_refl _) (Or.inl ⟨rfl, fun _ _ => rfl⟩)
    rcases d6 with ⟨p1, p2⟩ | ⟨p1, x, p2, p3⟩
    · subst p1
      refine ⟨U, Eq.trans d1 ?_, d2, d3, fun u x gx => ?_⟩
      · show lp_M_findFar_34 (n + 1) U 0 = _
        rw [lp_M_findFar_34, if_pos rfl]
      · have := d5 u x gx
        rw [p2 u (by have := (hG u x gx).1; omega)]
        exact this
    · subst p1
      have hb := (hF.1 x p2).2
      obtain ⟨y, y1, ⟨w, y2, y3⟩, y4⟩ := fin_step (G := G) (ln := lNg m) (g := gF T) (g' := gF U) (s := s) hF.2.1 (fun u v g => ⟨by have := (hG u v g).1; omega, by have := (hG u v g).2; omega, (lNg_r hT.1 (hG u v g).2).1⟩) (fun v hv => (hF.1 v hv).2) (fun x v g _ => d5 x v g) (gF U x + 1) (gF U x) x (by omega) (d3.2.2 x p2 (by omega)) p3 p2
      have hlt : cnt (fnl T G (lNg m) s) 40 < cnt (fnl U G (lNg m) s) 40 := cnt_lt (fun z hz hf => fnl_y.mpr (fun w hw => Nat.le_trans (d4 z hz) (fnl_y.mp hf w hw))) ⟨y, y1, Bool.eq_false_iff.mpr (fun z => by have := fnl_y.mp z w y2; omega), fnl_y.mpr y4⟩
      obtain ⟨V, e1, e2, e3, e4⟩ := ih (n + 1) U (hT.fr d2 (n202 (by decide))) (hO.fr d2 (n202 (by decide))) d3 (by omega) (by omega)
      exact ⟨V, Eq.trans d1 e1, d2.trans e2, e3, e4⟩
theorem ff2_l {s : Nat} (hs40 : s < 40) {K : hs → Int32 → Option (Int32 × hs)} : ∀ (r u n : Nat) (T : hs), (∀ x, x < u → gI T 202 x = if x = s then 0 else 100000) → u + r = 40 → r < n → ∃ U, lp_M_findFar_2 (iN s) K n T (iN u) = K U (iN 40) ∧ Fr (fun q => q = 202) T U ∧ ∀ x, x < 40 → gI U 202 x = if x = s then 0 else 100000 := by
  intro r
  induction r with
  | zero =>
    intro u n T hd hu hn
    obtain ⟨n, rfl⟩ : ∃ q, n = q + 1 := ⟨n - 1, by omega⟩
    obtain rfl : u = 40 := by omega
    exact ⟨T, by rw [lp_M_findFar_2, if_pos i40e], Fr.rfl', hd⟩
  | succ r ih =>
    intro u n T hd hu hn
    obtain ⟨n, rfl⟩ : ∃ q, n = q + 1 := ⟨n - 1, by omega⟩
    have go : ∀ v : Int32, v = (if u = s then 0 else 100000) → ∃ U, lp_M_findFar_2 (iN s) K n (uI T 202 u v) (iN (u + 1)) = K U (iN 40) ∧ Fr (fun q => q = 202) T U ∧ ∀ x, x < 40 → gI U 202 x = if x = s then 0 else 100000 := by
      intro v hv
      have f1 : Fr (fun q => q = 202) T (uI T 202 u v) := Fr.rfl'.uI rfl
      obtain ⟨U, h1, h2, h3⟩ := ih (u + 1) n (uI T 202 u v) (fun x hx => by
        rw [gI_u]
        by_cases z : x = u
        · subst z; rw [if_pos ⟨rfl, rfl⟩]; exact hv
        · rw [if_neg (fun y => z y.2)]; exact hd x (by omega)) (by omega) (by omega)
      exact ⟨U, h1, f1.trans h2, h3⟩
    rw [lp_M_findFar_2, if_neg (i40 (by omega))]
    by_cases q : u = s
    · rw [if_pos (by rw [q]), ck_of (iN_b (by omega) (by decide)), iN_c (by omega), iN_1]; exact go _ (by rw [if_pos q])
    · rw [if_neg (fun z => q ((iN_eq (by omega) (by omega)).mp z)), ck_of (iN_b (by omega) (by decide)), iN_c (by omega), iN_1]; exact go _ (by rw [if_neg q])
theorem pM_findFar (hG : ∀ u v, G u v = true → u < 2 * nSt m ∧ v < 2 * nSt m) {s : Nat} (hs40 : s < 40) (hT : Tn T m) (hO : On T G) : ∃ U, f_M_findFar T (iN s) = some (0, U) ∧ Fr (fun q => q = 202) T U ∧ Fi U G (lNg m) s ∧ ∀ u x, G u x = true → gF U x ≤ gF U u + lNg m x := by
  obtain ⟨V, h1, h2, h3⟩ := ff2_l hs40 (K := fun (S5 : hs) (y6 : Int32) => lp_M_findFar_34 1000 S5 (1 : Int32)) 40 0 1000 T (fun x hx => by omega) (by omega) (by omega)
  have gV : ∀ x, x < 40 → gF V x = if x = s then 0 else 100000 := fun x hx => by unfold gF; rw [h3 x hx]; split <;> rfl
  obtain ⟨U, a1, a2, a3, a4⟩ := ff34_l hG (s := s) 40 1000 V (hT.fr h2 (n202 (by decide))) (hO.fr h2 (n202 (by decide))) ⟨fun x hx => by
      rw [gV x hx, h3 x hx]
      split
      · exact ⟨rfl, by omega⟩
      · exact ⟨rfl, by omega⟩, by rw [gV s hs40, if_pos rfl], fun x hx hlt => by
      rw [gV x hx] at hlt ⊢
      by_cases z : x = s
      · subst z; rw [if_pos rfl]; exact WS.rfl'
      · rw [if_neg z] at hlt; omega⟩ (by omega) (by omega)
  exact ⟨U, Eq.trans h1 a1, h2.trans a2, a3, a4⟩
/-- how far it is from s to the crossing c -/
def FarIs (G : Nat → Nat → Bool) (m : Nat → Int32) (s : Nat) (c : Int32) (r : Nat) : Prop := r ≤ 100000 ∧ (∀ t w, WS G (lNg m) s t w → iN (enn m t) = c → r ≤ w) ∧ (r < 100000 → ∃ t, iN (enn m t) = c ∧ WS G (lNg m) s t r)
theorem FarIs.uniq {s r r' : Nat} {c : Int32} (h : FarIs G m s c r) (h' : FarIs G m s c r') : r = r' := by
  obtain ⟨a1, a2, a3⟩ := h
  obtain ⟨b1, b2, b3⟩ := h'
  rcases Nat.lt_trichotomy r r' with z | z | z
  · obtain ⟨t, t1, t2⟩ := a3 (by omega)
    have := b2 t r t2 t1
    omega
  · exact z
  · obtain ⟨t, t1, t2⟩ := b3 (by omega)
    have := a2 t r' t2 t1
    omega
theorem ft_l {s : Nat} (hn : Tn T m) (hF : Fi T G (lNg m) s) (hR : ∀ v w, WS G (lNg m) s v w → v < 2 * nSt m) {c : Int32} : ∀ (r v n b : Nat), v + r = 40 → r < n → b ≤ 100000 → (∀ x, x < v → iN (enn m x) = c → b ≤ gF T x) → (b < 100000 → ∃ x, x < 40 ∧ iN (enn m x) = c ∧ gF T x = b) → ∃ b' : Nat, lp_M_farTo_6 c n T (iN b) (iN v) = some (iN b', T) ∧ b' ≤ 100000 ∧ (∀ x, x < 40 → iN (enn m x) = c → b' ≤ gF T x) ∧ (b' < 100000 → ∃ x, x < 40 ∧ iN (enn m x) = c ∧ gF T x = b') := by
  intro r
  induction r with
  | zero =>
    intro v n b hv hn h1 h2 h3
    obtain ⟨n, rfl⟩ : ∃ q, n = q + 1 := ⟨n - 1, by omega⟩
    obtain rfl : v = 40 := by omega
    exact ⟨b, by rw [lp_M_farTo_6, if_pos i40e], h1, h2, h3⟩
  | succ r ih =>
    intro v n b hv hnn h1 h2 h3
    obtain ⟨n, rfl⟩ : ∃ q, n = q + 1 := ⟨n - 1, by omega⟩
    obtain ⟨b1, b2⟩ := hF.1 v (by omega)
    rw [lp_M_farTo_6, if_neg (i40 (by omega)), ck_of (iN_b (by omega) (by decide)), iN_c (by omega), b1, iN_1]
    by_cases q : b ≤ gF T v
    · rw [if_pos ((iN_le (by omega) (by omega)).mpr q)]
      refine ih (v + 1) n b (by omega) (by omega) h1 (fun x hx e => ?_) h3
      by_cases z : x = v
      · subst z; exact q
      · exact h2 x (by omega) e
    · have hv2 := hR v _ (hF.2.2 v (by omega) (by omega))
      rw [if_neg (fun z => q ((iN_le (by omega) (by omega)).mp z)), pM_endOf hn hv2, bd_s]
      by_cases q2 : iN (enn m v) = c
      · rw [if_pos q2, b1]
        refine ih (v + 1) n (gF T v) (by omega) (by omega) b2 (fun x hx e => ?_) (fun _ => ⟨v, by omega, q2, rfl⟩)
        by_cases z : x = v
        · subst z; exact Nat.le_refl _
        · have := h2 x (by omega) e; omega
      · rw [if_neg q2]
        refine ih (v + 1) n b (by omega) (by omega) h1 (fun x hx e => ?_) h3
        by_cases z : x = v
        · subst z; exact absurd e q2
        · exact h2 x (by omega) e
theorem WS.lt {ln : Nat → Nat} {N : Nat} (hG : ∀ u v, G u v = true → v < N) {s v w : Nat} (hs : s < N) (h : WS G ln s v w) : v < N := by
  obtain ⟨n, h⟩ := h
  cases n with
  | zero => obtain ⟨a, -⟩ := h; omega
  | succ n =>
    obtain ⟨x, w', -, b, -⟩ := Wk.last h
    exact hG x v b
theorem pM_farOf (hG : ∀ u v, G u v = true → u < 2 * nSt m ∧ v < 2 * nSt m) {s : Nat} (hs2 : s < 2 * nSt m) (c : Int32) (hT : Tn T m) (hO : On T G) : ∃ U r, f_M_farOf T (iN s) c = some (iN r, U) ∧ Fr (fun q => q = 202) T U ∧ FarIs G m s c r := by
  have hss := hT.1.s.2
  obtain ⟨U, a1, a2, a3, a4⟩ := pM_findFar hG (s := s) (by omega) hT hO
  have hR : ∀ v w, WS G (lNg m) s v w → v < 2 * nSt m := fun v w h => WS.lt (fun u v g => (hG u v g).2) hs2 h
  obtain ⟨b, b1, b2, b3, b4⟩ := ft_l (hT.fr a2 (n202 (by decide))) a3 hR (c := c) 40 0 1000 100000 (by omega) (by omega) (by omega) (fun x hx => by omega) (fun h => by omega)
  have b1 : f_M_farTo U c = some (iN b, U) := b1
  refine ⟨U, b, by unfold f_M_farOf; rw [a1, bd_s, b1, bd_s], a2, b2, fun t w h e => ?_, fun h => ?_⟩
  · have h4 := hR t w h
    have := b3 t (by omega) e
    obtain ⟨n, h⟩ := h
    have := WS.min0 a4 h
    have := a3.2.1
    omega
  · obtain ⟨x, x1, x2, x3⟩ := b4 h
    exact ⟨x, x2, by have := a3.2.2 x x1 (by omega); rw [x3] at this; exact this⟩
theorem WS.c {E : Nat → Nat → Bool} {C : Nat → Bool} {ln : Nat → Nat} {u v w : Nat} (h : WS (eC E C) ln u v w) (hu : C u = true) : C v = true := by
  obtain ⟨n, h⟩ := h
  cases n with
  | zero => obtain ⟨a, -⟩ := h; subst a; exact hu
  | succ n =>
    obtain ⟨x, w', -, b, -⟩ := Wk.last h
    exact (eC_c b).2.1
theorem far_cmp {E : Nat → Nat → Bool} {s r : Nat} {c : Int32} (hM : Ms T m E (tgC m c)) (hF : FarIs (eC E (cIs m)) m s c r) (cs : cIs m s = true) : (dF T s = r ∧ r ≤ 720) ∨ (dF T s = 1000000 ∧ r = 100000) := by
  obtain ⟨m1, m2, m3, m4⟩ := hM
  obtain ⟨f1, f2, f3⟩ := hF
  have hs2 := cIs_lt cs
  have hup : r < 100000 → dF T s ≤ r := fun h => by
    obtain ⟨t, t1, n, t2⟩ := f3 h
    exact Wk.min (Tg := tgC m c) (fun t ht => m3 t (cIs_lt ht.1) ht) m4 t2 ⟨WS.c ⟨n, t2⟩ cs, t1⟩
  have hb := (m1 s hs2).2
  by_cases q : dF T s < 1000000
  · obtain ⟨a, -, t, t1, t2⟩ := m2 s hs2 q
    have := f2 t _ t2 t1.2
    have := hup (by omega)
    exact Or.inl ⟨by omega, by omega⟩
  · refine Or.inr ⟨by omega, ?_⟩
    rcases Nat.lt_or_ge r 100000 with z | z
    · have := hup z; omega
    · omega
end
