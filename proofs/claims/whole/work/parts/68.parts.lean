/-! Never, parts. -/
noncomputable def gN (m : Nat → Int32) (E : Nat → Nat → Bool) (C : Nat → Bool) (u : Nat) (a : Int32) : Int32 := if C u = true then a ||| (endZ m E C u &&& (((1 : Int32) <<< (iN (enn m u) &&& 31)) ^^^ (-1 : Int32))) else a
def wlP (E : Nat → Nat → Bool) (C : Nat → Bool) (u : Nat) : Prop := ∃ v, v < u ∧ RS (fun u v => E u v && C v) u v ∧ RS (fun u v => E u v && C v) v u
noncomputable def gQ (E : Nat → Nat → Bool) (C : Nat → Bool) (u : Nat) (a : Int32) : Int32 := if C u = true then (@ite _ (wlP E C u) (Classical.propDecidable _) a (a + 1)) else a
section
variable {k : cx} {S S1 S2 T : hs} {m m' : Nat → Int32} {l : Lz}
theorem wn_l {E : Nat → Nat → Bool} (hW : Wy S m E) (v0 : VM m) (hE : ∀ u v, E u v = true → v < 2 * nSt m) {K : hs → Int32 → Int32 → Option (Int32 × hs)} : ∀ (r u n : Nat) (acc : Int32), u + r = 2 * nSt m → r < n → lp_W_crossingsNeverReached_4 K n S acc (iN u) = K S (fo (gN m E (cIs m)) r u acc) (iN (2 * nSt m)) := by
  have hss := v0.s.2
  intro r
  induction r with
  | zero =>
    intro u n acc hu hn
    obtain ⟨n, rfl⟩ : ∃ q, n = q + 1 := ⟨n - 1, by omega⟩
    obtain rfl : u = 2 * nSt m := by omega
    rw [lp_W_crossingsNeverReached_4, hW.1.1, if_pos ((iN_le (by omega) (by omega)).mpr (by omega))]; rfl
  | succ r ih =>
    intro u n acc hu hn
    obtain ⟨n, rfl⟩ : ∃ q, n = q + 1 := ⟨n - 1, by omega⟩
    rw [lp_W_crossingsNeverReached_4, hW.1.1, if_neg (fun z => by have := (iN_le (by omega) (by omega)).mp z; omega), pX_isIn (by omega), bd_s, if_bI, iN_1, hW.1.2.2.2.1 u (by omega), fo]
    cases q : cIs m u with
    | false =>
      rw [bt_f, show gN m E (cIs m) u acc = acc from if_neg (by rw [q]; decide)]
      exact ih (u + 1) n acc (by omega) (by omega)
    | true =>
      obtain ⟨X, b1, b2, b3, b4⟩ := W_ends hW v0 hW.1.2.2.2.1 (u := u) (by omega) hE
      unfold f_W_crossingsFrom
      rw [bt_t, b1, bd_s, b3, bd_s, bd_s, ck_of (iN_b (by omega) (by decide)), iN_c (by omega), (hW.1.2.2.1 u (by omega)).2.1, show gN m E (cIs m) u acc = _ from if_pos q]
      exact ih (u + 1) n _ (by omega) (by omega)
theorem mn_l {E : Nat → Nat → Bool} (hn : Tn S m) (hO : On S (fun u v => cIs m u && cIs m v && E u v)) {K : hs → Int32 → Int32 → Option (Int32 × hs)} : ∀ (r u n : Nat) (acc : Int32), u + r = 40 → r < n → lp_M_never_19 K n S acc (iN u) = K S (fo (gN m E (cIs m)) r u acc) (iN 40) := by
  intro r
  induction r with
  | zero =>
    intro u n acc hu hn
    obtain ⟨n, rfl⟩ : ∃ q, n = q + 1 := ⟨n - 1, by omega⟩
    obtain rfl : u = 40 := by omega
    rw [lp_M_never_19, if_pos i40e]; rfl
  | succ r ih =>
    intro u n acc hu hn2
    obtain ⟨n, rfl⟩ : ∃ q, n = q + 1 := ⟨n - 1, by omega⟩
    rw [lp_M_never_19, if_neg (i40 (by omega)), pM_isCourse hn, bd_s, if_bI, iN_1, cIx_n (by omega), fo]
    cases q : cIs m u with
    | false =>
      rw [bt_f, show acc ||| (0 : Int32) = acc from Int32.or_zero, show gN m E (cIs m) u acc = acc from if_neg (by rw [q]; decide)]
      exact ih (u + 1) n acc (by omega) (by omega)
    | true =>
      obtain ⟨X, b1, b2, b3⟩ := M_ends hn hO q
      rw [bt_t, b1, bd_s, b3, bd_s, pM_endOf hn (cIs_lt q), bd_s, show gN m E (cIs m) u acc = _ from if_pos q]
      exact ih (u + 1) n _ (by omega) (by omega)
theorem q_never (h : Inv k S) (y : Int32) : Q2 k S (f_X_never S y) (fun T => f_M_never T y) := by
  obtain ⟨m, l, ht⟩ := h.1
  have hss := ht.1.1.s.2
  by_cases q1 : 0 ≤ y.toInt ∧ y.toInt ≤ 9
  · obtain ⟨w, rfl, hw, ew⟩ := iN_of q1.1
    obtain ⟨S1, a1, a2, a3⟩ := prep2 h ht (w := w) (by omega)
    have ht1 := ht.fr a2
    obtain ⟨S2, c1, c2, c3, c4⟩ := onto2 (fr3 h a2) ht1 (w := w) (by omega)
    refine Q2.fr (r := (((1 : Int32) <<< (iN (nCr m) &&& 31)) - (1 : Int32)) &&& ((fo (gN m (fun u v => mgW m l u v w) (cIs m)) (2 * nSt m) 0 0) ^^^ (-1 : Int32))) h ?_ ?_ a2 c2
    · unfold f_X_never f_W_crossingsNeverReached
      rw [(isWidth_y q1).1, bd_s, if_neg (by decide), a1, bd_s, show (0 : Int32) = iN 0 from rfl, wn_l a3 ht.1.1 (fun u v h => mgW_v h) (2 * nSt m) 0 1000 _ (by omega) (by omega)]
      show bd (some _) _ = _
      rw [bd_s, a3.1.2.1]
    · show f_M_never S1 _ = _
      unfold f_M_never
      rw [(isWidth_y q1).2, bd_s, if_neg (by decide), c1, bd_s]
      have e := mn_l (E := fun u v => mgW m l u v w) c4 c3 (K := fun (S22 : hs) (y23 : Int32) (y24 : Int32) => some (((((1 : Int32) <<< ((gI S22 192 1) &&& 31)) - (1 : Int32)) &&& (y23 ^^^ (-1 : Int32))), S22)) 40 0 1000 0 (by omega) (by omega)
      refine Eq.trans e ?_
      show some _ = _
      rw [c4.c, show (40 : Nat) = 2 * nSt m + (40 - 2 * nSt m) by omega, fo_more (g := gN m (fun u v => mgW m l u v w) (cIs m)) (2 * nSt m) (40 - 2 * nSt m) 0 0 (fun x h1 h2 a => if_neg (fun z => by have := cIs_lt z; omega))]
  · refine Q2.same (r := -1) h ?_ ?_
    · unfold f_X_never
      rw [(isWidth_n q1).1, bd_s, if_pos rfl]
    · show f_M_never S _ = _
      unfold f_M_never
      rw [(isWidth_n q1).2, bd_s, if_pos rfl]
theorem RS_C {E : Nat → Nat → Bool} {C : Nat → Bool} {u v : Nat} (hu : C u = true) (h : RS (fun u v => E u v && C v) u v) : C v = true :=
  h.closed (P := fun x => C x = true) (fun x y _ hxy => by simp only [Bool.and_eq_true] at hxy; exact hxy.2) hu
/-- what the class keeps of reach -/
def Rch (T : hs) (E : Nat → Nat → Bool) (C : Nat → Bool) (u : Nat) : Prop := ∀ v, v < u → C v = true → ∀ i, i < 64 → (jb (gJ T 143 v) i = true ↔ RS (fun u v => E u v && C v) v i)
theorem wl_l {E : Nat → Nat → Bool} {C : Nat → Bool} (hW : Wy T m E) (v0 : VM m) {u : Nat} (hu : u < 2 * nSt m) (cu : C u = true) (hR : Rch T E C (u + 1)) : ∀ (r v n : Nat), v + r = u → r < n → ∃ b : Bool, lp_W_isWithLesser_2 (iN u) n T (iN v) = some (bI b, T) ∧ (b = true ↔ ∃ w, v ≤ w ∧ w < u ∧ RS (fun u v => E u v && C v) u w ∧ RS (fun u v => E u v && C v) w u) := by
  have hss := v0.s.2
  intro r
  induction r with
  | zero =>
    intro v n hv hn
    obtain ⟨n, rfl⟩ : ∃ q, n = q + 1 := ⟨n - 1, by omega⟩
    refine ⟨false, by rw [lp_W_isWithLesser_2, if_pos ((iN_le (by omega) (by omega)).mpr (by omega))]; rfl, ⟨fun h => absurd h (by decide), fun ⟨w, h1, h2, _⟩ => by omega⟩⟩
  | succ r ih =>
    intro v n hv hn
    obtain ⟨n, rfl⟩ : ∃ q, n = q + 1 := ⟨n - 1, by omega⟩
    obtain ⟨b, h1, h2⟩ := ih (v + 1) n (by omega) (by omega)
    rw [lp_W_isWithLesser_2, hW.1.1, if_neg (fun z => by have := (iN_le (by omega) (by omega)).mp z; omega), if_neg (fun z => by have := (iN_le (by omega) (by omega)).mp z; omega), ck_of (iN_b (by omega) (by decide)), iN_c (by omega), pX_isIn (by omega), bd_s, if_bI, iN_1]
    have ru := hR u (by omega) cu v (by omega)
    cases q1 : jb (gJ T 143 u) v with
    | false =>
      refine ⟨b, by rw [bt_f]; exact h1, h2.trans ⟨fun ⟨w, a, c⟩ => ⟨w, by omega, c⟩, fun ⟨w, a, c, d, e⟩ => ?_⟩⟩
      by_cases z : w = v
      · subst z
        rw [ru.mpr d] at q1; exact absurd q1 (by decide)
      · exact ⟨w, by omega, c, d, e⟩
    | true =>
      have cv := RS_C cu (ru.mp q1)
      have rv := hR v (by omega) cv u (by omega)
      rw [bt_t, ck_of (iN_b (by omega) (by decide)), iN_c (by omega), pX_isIn (by omega), bd_s, if_bI]
      cases q2 : jb (gJ T 143 v) u with
      | false =>
        refine ⟨b, by rw [bt_f]; exact h1, h2.trans ⟨fun ⟨w, a, c⟩ => ⟨w, by omega, c⟩, fun ⟨w, a, c, d, e⟩ => ?_⟩⟩
        by_cases z : w = v
        · subst z
          rw [rv.mpr e] at q2; exact absurd q2 (by decide)
        · exact ⟨w, by omega, c, d, e⟩
      | true => exact ⟨true, rfl, ⟨fun _ => ⟨v, Nat.le_refl _, by omega, ru.mp q1, rv.mp q2⟩, fun _ => rfl⟩⟩
theorem wp_l {E : Nat → Nat → Bool} (v0 : VM m) (hE : ∀ u v, E u v = true → v < 2 * nSt m) : ∀ (r u n : Nat) (acc : Int32) (T : hs), Wy T m E → Rch T E (cIs m) u → u + r = 2 * nSt m → r < n → ∃ U, lp_W_countParts_4 n T acc (iN u) = some (fo (gQ E (cIs m)) r u acc, U) ∧ Fr (fun q => q = 143) T U := by
  have hss := v0.s.2
  intro r
  induction r with
  | zero =>
    intro u n acc T hW hR hu hn
    obtain ⟨n, rfl⟩ : ∃ q, n = q + 1 := ⟨n - 1, by omega⟩
    refine ⟨T, ?_, Fr.rfl'⟩
    rw [lp_W_countParts_4, hW.1.1, if_pos ((iN_le (by omega) (by omega)).mpr (by omega))]; rfl
  | succ r ih =>
    intro u n acc T hW hR hu hn
    obtain ⟨n, rfl⟩ : ∃ q, n = q + 1 := ⟨n - 1, by omega⟩
    rw [lp_W_countParts_4, hW.1.1, if_neg (fun z => by have := (iN_le (by omega) (by omega)).mp z; omega), pX_isIn (by omega), bd_s, if_bI, iN_1, hW.1.2.2.2.1 u (by omega), fo]
    cases q : cIs m u with
    | false =>
      obtain ⟨U, h1, h2⟩ := ih (u + 1) n acc T hW (fun v hv cv => hR v (by
        by_cases z : v = u
        · subst z; rw [q] at cv; exact absurd cv (by decide)
        · omega) cv) (by omega) (by omega)
      refine ⟨U, ?_, h2⟩
      rw [bt_f, show gQ E (cIs m) u acc = acc from if_neg (by rw [q]; decide)]; exact h1
    | true =>
      obtain ⟨X, b1, b2, b3, b4⟩ := W_ends hW v0 hW.1.2.2.2.1 (u := u) (by omega) hE
      have f1 : Fr (fun q => q = 143) T (uJ T 143 u X) := Fr.rfl'.uJ rfl
      have hW1 : Wy (uJ T 143 u X) m E := hW.fr f1 (fun a h1 h2 z => by have z : a = 143 := z; omega)
      have hR1 : Rch (uJ T 143 u X) E (cIs m) (u + 1) := fun v hv cv i hi => by
        rw [gJ_u]
        by_cases z : v = u
        · rw [if_pos ⟨rfl, z⟩, z]; exact b2 i hi
        · rw [if_neg (fun y => z y.2)]; exact hR v (by omega) cv i hi
      obtain ⟨b, c1, c2⟩ := wl_l hW1 v0 (u := u) (by omega) q hR1 u 0 1000 (by omega) (by omega)
      rw [bt_t, b1, bd_s, ck_of (iN_b (by omega) (by decide)), iN_c (by omega), show f_W_isWithLesser (uJ T 143 u X) (iN u) = some (bI b, uJ T 143 u X) from c1, bd_s, if_bI]
      have hb : b = true ↔ wlP E (cIs m) u := c2.trans ⟨fun ⟨w, _, c⟩ => ⟨w, c⟩, fun ⟨w, c⟩ => ⟨w, by omega, c⟩⟩
      cases hbb : b with
      | false =>
        obtain ⟨U, h1, h2⟩ := ih (u + 1) n (acc + 1) (uJ T 143 u X) hW1 hR1 (by omega) (by omega)
        refine ⟨U, ?_, f1.trans h2⟩
        have : gQ E (cIs m) u acc = acc + 1 := by
          unfold gQ
          rw [if_pos q, if_neg (fun z => by rw [hb.mpr z] at hbb; exact absurd hbb (by decide))]
        rw [this]; exact h1
      | true =>
        obtain ⟨U, h1, h2⟩ := ih (u + 1) n (acc + 0) (uJ T 143 u X) hW1 hR1 (by omega) (by omega)
        refine ⟨U, ?_, f1.trans h2⟩
        have : gQ E (cIs m) u acc = acc + 0 := by
          unfold gQ
          rw [if_pos q, if_pos (hb.mp hbb), show acc + (0 : Int32) = acc from Int32.add_zero acc]
        rw [this]; exact h1
theorem mp_in {E : Nat → Nat → Bool} (hn : Tn S m) (hO : On S (fun u v => cIs m u && cIs m v && E u v)) {u : Nat} (cu : cIs m u = true) {X : Int64} (hX : ∀ v, v < 64 → (jb X v = true ↔ RS (fun u v => E u v && cIs m v) u v)) {x2 : Int32} {K : hs → Int32 → Int32 → Option (Int32 × hs)} (hK : ∀ b y y', K S (bI b) y = K S (bI b) y') : ∀ (r v n : Nat), v + r = u → r + 1 < n → ∃ (b : Bool), lp_M_parts_51 x2 (iN u) X K n S (1 : Int32) (iN v) = K S (bI b) (iN 0) ∧ (b = false ↔ ∃ w, v ≤ w ∧ w < u ∧ RS (fun u v => E u v && cIs m v) u w ∧ RS (fun u v => E u v && cIs m v) w u) := by
  have hss := hn.1.s.2
  have hu := cIs_lt cu
  intro r
  induction r with
  | zero =>
    intro v n hv hn
    obtain ⟨n, rfl⟩ : ∃ q, n = q + 1 := ⟨n - 1, by omega⟩
    refine ⟨true, by rw [lp_M_parts_51, if_pos ((iN_le (by omega) (by omega)).mpr (by omega))]; exact hK true _ _, ⟨fun h => absurd h (by decide), fun ⟨w, h1, h2, _⟩ => by omega⟩⟩
  | succ r ih =>
    intro v n hv hn2
    obtain ⟨n, rfl⟩ : ∃ q, n = q + 1 := ⟨n - 1, by omega⟩
    obtain ⟨b, h1, h2⟩ := ih (v + 1) n (by omega) (by omega)
    rw [lp_M_parts_51, if_neg (fun z => by have := (iN_le (by omega) (by omega)).mp z; omega), if_neg (by decide), pM_hasBit (by omega), bd_s, if_bI, iN_1]
    have ru := hX v (by omega)
    cases q1 : jb X v with
    | false =>
      refine ⟨b, by rw [bt_f]; exact h1, h2.trans ⟨fun ⟨w, a, c⟩ => ⟨w, by omega, c⟩, fun ⟨w, a, c, d, e⟩ => ?_⟩⟩
      by_cases z : w = v
      · subst z
        rw [ru.mpr d] at q1; exact absurd q1 (by decide)
      · exact ⟨w, by omega, c, d, e⟩
    | true =>
      have cv := RS_C cu (ru.mp q1)
      obtain ⟨Y, b1, b2, b3⟩ := M_ends hn hO cv
      have rv := b2 u (by omega)
      rw [bt_t, b1, bd_s, pM_hasBit (by omega), bd_s, if_bI]
      cases q2 : jb Y u with
      | false =>
        refine ⟨b, by rw [bt_f]; exact h1, h2.trans ⟨fun ⟨w, a, c⟩ => ⟨w, by omega, c⟩, fun ⟨w, a, c, d, e⟩ => ?_⟩⟩
        by_cases z : w = v
        · subst z
          rw [rv.mpr e] at q2; exact absurd q2 (by decide)
        · exact ⟨w, by omega, c, d, e⟩
      | true =>
        refine ⟨false, ?_, ⟨fun _ => ⟨v, Nat.le_refl _, by omega, ru.mp q1, rv.mp q2⟩, fun _ => rfl⟩⟩
        obtain ⟨n, rfl⟩ : ∃ q, n = q + 1 := ⟨n - 1, by omega⟩
        rw [bt_t, lp_M_parts_51]
        split
        · exact hK false _ _
        · rw [if_pos rfl]; exact hK false _ _
theorem mp_l {E : Nat → Nat → Bool} (hn : Tn S m) (hO : On S (fun u v => cIs m u && cIs m v && E u v)) : ∀ (r u n : Nat) (acc : Int32), u + r = 40 → r < n → lp_M_parts_19 n S acc (iN u) = some (fo (gQ E (cIs m)) r u acc, S) := by
  intro r
  induction r with
  | zero =>
    intro u n acc hu hn
    obtain ⟨n, rfl⟩ : ∃ q, n = q + 1 := ⟨n - 1, by omega⟩
    obtain rfl : u = 40 := by omega
    rw [lp_M_parts_19, if_pos i40e]; rfl
  | succ r ih =>
    intro u n acc hu hn2
    obtain ⟨n, rfl⟩ : ∃ q, n = q + 1 := ⟨n - 1, by omega⟩
    rw [lp_M_parts_19, if_neg (i40 (by omega)), pM_isCourse hn, bd_s, if_bI, iN_1, cIx_n (by omega), fo]
    cases q : cIs m u with
    | false =>
      rw [bt_f, show gQ E (cIs m) u acc = acc from if_neg (by rw [q]; decide), show (1000 : Nat) = 999 + 1 from rfl, lp_M_parts_51]
      have e := ih (u + 1) n (acc + 0) (by omega) (by omega)
      rw [show acc + (0 : Int32) = acc from Int32.add_zero acc] at e
      split
      · rw [if_pos (show bI false = 0 from rfl), show acc + (0 : Int32) = acc from Int32.add_zero acc]; exact e
      · rw [if_pos (show bI false = 0 from rfl)]
        show (if bI false = 0 then lp_M_parts_19 n S (acc + 0) (iN (u + 1)) else _) = _
        rw [if_pos (show bI false = 0 from rfl), show acc + (0 : Int32) = acc from Int32.add_zero acc]; exact e
    | true =>
      obtain ⟨X, b1, b2, b3⟩ := M_ends hn hO q
      rw [bt_t, b1, bd_s]
      obtain ⟨b, c1, c2⟩ := mp_in hn hO q b2 (x2 := acc) (K := fun (S33 : hs) (y34 : Int32) (y35 : Int32) => (if y34 = 0 then lp_M_parts_19 n S33 (acc + (0 : Int32)) (iN (u + 1)) else lp_M_parts_19 n S33 (acc + (1 : Int32)) (iN (u + 1)))) (fun b y y' => rfl) u 0 1000 (by omega) (by omega)
      refine Eq.trans c1 ?_
      show (if bI b = 0 then _ else _) = _
      rw [if_bI]
      have hb : b = false ↔ wlP E (cIs m) u := c2.trans ⟨fun ⟨w, _, c⟩ => ⟨w, c⟩, fun ⟨w, c⟩ => ⟨w, by omega, c⟩⟩
      cases hbb : b with
      | false =>
        have : gQ E (cIs m) u acc = acc + 0 := by
          unfold gQ
          rw [if_pos q, if_pos (hb.mp hbb), show acc + (0 : Int32) = acc from Int32.add_zero acc]
        rw [this]; exact ih (u + 1) n _ (by omega) (by omega)
      | true =>
        have : gQ E (cIs m) u acc = acc + 1 := by
          unfold gQ
          rw [if_pos q, if_neg (fun z => by rw [hb.mpr z] at hbb; exact absurd hbb (by decide))]
        rw [this]; exact ih (u + 1) n _ (by omega) (by omega)
theorem q_parts (h : Inv k S) (y : Int32) : Q2 k S (f_X_parts S y) (fun T => f_M_parts T y) := by
  obtain ⟨m, l, ht⟩ := h.1
  have hss := ht.1.1.s.2
  by_cases q1 : 0 ≤ y.toInt ∧ y.toInt ≤ 9
  · obtain ⟨w, rfl, hw, ew⟩ := iN_of q1.1
    obtain ⟨S0, a1, a2, a3⟩ := prep2 h ht (w := w) (by omega)
    obtain ⟨S1, b1, b2⟩ := wp_l ht.1.1 (fun u v h => mgW_v h) (2 * nSt m) 0 1000 0 S0 a3 (fun v hv => by omega) (by omega) (by omega)
    have a4 : Fr Scr S S1 := a2.trans (b2.mono (fun a z => by have z : a = 143 := z; unfold Scr; omega))
    have ht1 := ht.fr a4
    obtain ⟨S2, c1, c2, c3, c4⟩ := onto2 (fr3 h a4) ht1 (w := w) (by omega)
    refine Q2.fr (r := fo (gQ (fun u v => mgW m l u v w) (cIs m)) (2 * nSt m) 0 0) h ?_ ?_ a4 c2
    · unfold f_X_parts f_W_countParts
      rw [(isWidth_y q1).1, bd_s, if_neg (by decide), a1, bd_s, show (0 : Int32) = iN 0 from rfl]
      rw [show lp_W_countParts_4 1000 S0 (iN 0) (iN 0) = _ from b1, bd_s]; rfl
    · show f_M_parts S1 _ = _
      unfold f_M_parts
      rw [(isWidth_y q1).2, bd_s, if_neg (by decide), c1, bd_s]
      have e := mp_l (E := fun u v => mgW m l u v w) c4 c3 40 0 1000 0 (by omega) (by omega)
      refine Eq.trans e ?_
      rw [show (40 : Nat) = 2 * nSt m + (40 - 2 * nSt m) by omega, fo_more (g := gQ (fun u v => mgW m l u v w) (cIs m)) (2 * nSt m) (40 - 2 * nSt m) 0 0 (fun x h1 h2 a => if_neg (fun z => by have := cIs_lt z; omega))]
  · refine Q2.same (r := -1) h ?_ ?_
    · unfold f_X_parts
      rw [(isWidth_n q1).1, bd_s, if_pos rfl]
    · show f_M_parts S _ = _
      unfold f_M_parts
      rw [(isWidth_n q1).2, bd_s, if_pos rfl]
end
