/-! The class's measuring as a whole; the model's. -/
section
variable {k : cx} {S S1 S2 T : hs} {m m' : Nat → Int32} {l : Lz}
theorem m2_l {E : Nat → Nat → Bool} (v0 : VM m) {X : Int64} {K : hs → Int32 → Option (Int32 × hs)} : ∀ (r u n : Nat) (T : hs), Wy T m E → (∀ x, x < u → gI T 144 x = if jb X x = true then 0 else 1000000) → u + r = 2 * nSt m → r < n → ∃ U, lp_W_measure_2 X K n T (iN u) = K U (iN (2 * nSt m)) ∧ Fr (fun q => q = 144) T U ∧ ∀ x, x < 2 * nSt m → gI U 144 x = if jb X x = true then 0 else 1000000 := by
  have hss := v0.s.2
  intro r
  induction r with
  | zero =>
    intro u n T hW hd hu hn
    obtain ⟨n, rfl⟩ : ∃ q, n = q + 1 := ⟨n - 1, by omega⟩
    obtain rfl : u = 2 * nSt m := by omega
    exact ⟨T, by rw [lp_W_measure_2, hW.1.1, if_pos ((iN_le (by omega) (by omega)).mpr (by omega))], Fr.rfl', hd⟩
  | succ r ih =>
    intro u n T hW hd hu hn
    obtain ⟨n, rfl⟩ : ∃ q, n = q + 1 := ⟨n - 1, by omega⟩
    have go : ∀ v : Int32, v = (if jb X u = true then 0 else 1000000) → ∃ U, lp_W_measure_2 X K n (uI T 144 u v) (iN (u + 1)) = K U (iN (2 * nSt m)) ∧ Fr (fun q => q = 144) T U ∧ ∀ x, x < 2 * nSt m → gI U 144 x = if jb X x = true then 0 else 1000000 := by
      intro v hv
      have f1 : Fr (fun q => q = 144) T (uI T 144 u v) := Fr.rfl'.uI rfl
      obtain ⟨U, h1, h2, h3⟩ := ih (u + 1) n (uI T 144 u v) (hW.fr f1 (fun a h1 h2 z => by have z : a = 144 := z; omega)) (fun x hx => by
        rw [gI_u]
        by_cases z : x = u
        · subst z; rw [if_pos ⟨rfl, rfl⟩]; exact hv
        · rw [if_neg (fun y => z y.2)]; exact hd x (by omega)) (by omega) (by omega)
      exact ⟨U, h1, f1.trans h2, h3⟩
    rw [lp_W_measure_2, hW.1.1, if_neg (fun z => by have := (iN_le (by omega) (by omega)).mp z; omega), pX_isIn (by omega), bd_s, if_bI]
    cases q : jb X u with
    | false => rw [bt_f, ck_of (iN_b (by omega) (by decide)), iN_c (by omega), iN_1]; exact go _ (by rw [q]; rfl)
    | true => rw [bt_t, ck_of (iN_b (by omega) (by decide)), iN_c (by omega), iN_1]; exact go _ (by rw [q]; rfl)
theorem jb_lt {x : Int64} {v : Nat} (h : jb x v = true) : v < 64 := by
  rcases Nat.lt_or_ge v 64 with q | q
  · exact q
  · rw [jb_big q] at h; exact absurd h (by decide)
theorem pW_measure {E : Nat → Nat → Bool} (hW : Wy T m E) (v0 : VM m) {X : Int64} {Tg : Nat → Prop} (hX : ∀ t, jb X t = true ↔ Tg t) (hc : ∀ t, Tg t → cIs m t = true) : ∃ U, f_W_measure T X = some (0, U) ∧ Fr (fun q => q = 144) T U ∧ Ms U m E Tg := by
  have hss := v0.s.2
  obtain ⟨V, h1, h2, h3⟩ := m2_l v0 (X := X) (K := fun (S8 : hs) (y9 : Int32) => lp_W_measure_44 1000 S8 (gJ S8 138 8) (0 : Int32)) (2 * nSt m) 0 1000 T hW (fun x hx => by omega) (by omega) (by omega)
  have hV := hW.fr h2 (fun a h1 h2 z => by have z : a = 144 := z; omega)
  have dV : ∀ x, x < 2 * nSt m → dF V x = if jb X x = true then 0 else 1000000 := fun x hx => by unfold dF; rw [h3 x hx]; split <;> rfl
  have oc : ∀ a, cIs m a = true → jb (gJ V 138 8) a = false → False := fun a ca ja => by
    rw [hV.1.2.2.2.1 a (by have := cIs_lt ca; omega), ca] at ja
    exact absurd ja (by decide)
  obtain ⟨U, a1, a2, a3⟩ := dj_l v0 (Tg := Tg) (2 * nSt m) 0 1000 (gJ V 138 8) V hV ⟨fun u hu => by
      rw [dV u hu, h3 u hu]
      split
      · exact ⟨rfl, by omega⟩
      · exact ⟨rfl, by omega⟩, fun u hu => by rw [hV.1.2.2.2.1 u (jb_lt hu)] at hu; exact hu, fun a b ca ja _ => absurd ja (fun z => oc a ca z), fun u v cv jv _ => absurd jv (fun z => oc v cv z), fun u hu hlt => by
      rw [dV u hu] at hlt ⊢
      by_cases q : jb X u = true
      · rw [if_pos q]
        exact ⟨by omega, hc u ((hX u).mp q), u, (hX u).mp q, WS.rfl'⟩
      · rw [if_neg q] at hlt; omega, fun t ht hT => by rw [dV t ht, if_pos ((hX t).mpr hT)], by omega⟩ (by omega) (by omega)
  exact ⟨U, Eq.trans h1 a1, h2.trans a2, a3⟩
theorem mt_l {E : Nat → Nat → Bool} (hW : Wy T m E) (v0 : VM m) {c : Int32} {K : hs → Int64 → Int32 → Option (Int32 × hs)} : ∀ (r u n : Nat) (acc : Int64), (∀ x, jb acc x = true ↔ (x < u ∧ iN (enn m x) = c)) → u + r = 2 * nSt m → r < n → ∃ X, lp_W_measureTo_5 c K n T acc (iN u) = K T X (iN (2 * nSt m)) ∧ ∀ x, jb X x = true ↔ (x < 2 * nSt m ∧ iN (enn m x) = c) := by
  have hss := v0.s.2
  intro r
  induction r with
  | zero =>
    intro u n acc hd hu hn
    obtain ⟨n, rfl⟩ : ∃ q, n = q + 1 := ⟨n - 1, by omega⟩
    obtain rfl : u = 2 * nSt m := by omega
    exact ⟨acc, by rw [lp_W_measureTo_5, hW.1.1, if_pos ((iN_le (by omega) (by omega)).mpr (by omega))], hd⟩
  | succ r ih =>
    intro u n acc hd hu hn
    obtain ⟨n, rfl⟩ : ∃ q, n = q + 1 := ⟨n - 1, by omega⟩
    rw [lp_W_measureTo_5, hW.1.1, if_neg (fun z => by have := (iN_le (by omega) (by omega)).mp z; omega), ck_of (iN_b (by omega) (by decide)), iN_c (by omega), (hW.1.2.2.1 u (by omega)).2.1, iN_1]
    by_cases q : iN (enn m u) = c
    · rw [if_pos q]
      refine ih (u + 1) n _ (fun x => ?_) (by omega) (by omega)
      rw [jb_or, jb_sh (by omega), Bool.or_eq_true, hd x, decide_eq_true_eq]
      constructor
      · rintro (⟨a, b⟩ | a)
        · exact ⟨by omega, b⟩
        · subst a; exact ⟨by omega, q⟩
      · rintro ⟨a, b⟩
        by_cases z : x = u
        · exact Or.inr z
        · exact Or.inl ⟨by omega, b⟩
    · rw [if_neg q]
      refine ih (u + 1) n _ (fun x => ?_) (by omega) (by omega)
      rw [jb_or, jb_0, Bool.or_false, hd x]
      constructor
      · rintro ⟨a, b⟩
        exact ⟨by omega, b⟩
      · rintro ⟨a, b⟩
        by_cases z : x = u
        · subst z; exact absurd b q
        · exact ⟨by omega, b⟩
/-- towards a crossing -/
def tgC (m : Nat → Int32) (c : Int32) (t : Nat) : Prop := cIs m t = true ∧ iN (enn m t) = c
theorem pW_measureTo {E : Nat → Nat → Bool} (hW : Wy T m E) (v0 : VM m) (c : Int32) : ∃ U, f_W_measureTo T c = some (0, U) ∧ Fr (fun q => q = 144) T U ∧ Ms U m E (tgC m c) := by
  have hss := v0.s.2
  obtain ⟨X, h1, h2⟩ := mt_l hW v0 (c := c) (K := fun (S4 : hs) (y5 : Int64) (y6 : Int32) => bd (f_W_measure  S4 (y5 &&& (gJ S4 138 8))) fun r7 S8 => some ((0 : Int32), S8)) (2 * nSt m) 0 1000 0 (fun x => by rw [jb_0]; constructor <;> intro h <;> first | omega | exact absurd h (by decide)) (by omega) (by omega)
  obtain ⟨U, a1, a2, a3⟩ := pW_measure hW v0 (X := X &&& gJ T 138 8) (Tg := tgC m c) (fun t => by
    rw [jb_and, Bool.and_eq_true, h2 t]
    constructor
    · rintro ⟨⟨a, b⟩, d⟩
      rw [hW.1.2.2.2.1 t (jb_lt d)] at d
      exact ⟨d, b⟩
    · rintro ⟨a, b⟩
      have := cIs_lt a
      exact ⟨⟨this, b⟩, by rw [hW.1.2.2.2.1 t (by omega)]; exact a⟩) (fun t h => h.1)
  refine ⟨U, Eq.trans h1 ?_, a2, a3⟩
  show bd (f_W_measure T (X &&& gJ T 138 8)) _ = _
  rw [a1, bd_s]
theorem pW_leftFrom {E : Nat → Nat → Bool} (hW : Wy T m E) (v0 : VM m) (hM : dOk T m) {u : Nat} (hu : u < 2 * nSt m) : f_W_leftFrom T (iN u) = some (iN (dF T u), T) := by
  have hss := v0.s.2
  unfold f_W_leftFrom
  rw [hW.1.1, if_neg (lt_n (iN_i (by omega)) tl0 (by omega)), if_neg (fun z => by have := (iN_le (by omega) (by omega)).mp z; omega), ck_of (iN_b (by omega) (by decide)), iN_c (by omega), (hM u hu).1]
end
