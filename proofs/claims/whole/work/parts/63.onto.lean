/-! The model's turns that may be gone. -/
def OnP (a : Nat) : Prop := a = 200 ∨ a = 201
/-- what the model has found: turns by E -/
def On (T : hs) (E : Nat → Nat → Bool) : Prop := ∀ u, u < 40 → ∀ v, v < 64 → jb (gJ T 201 u) v = (decide (v < 40) && E u v)
section
variable {k : cx} {S S1 S2 T : hs} {m m' : Nat → Int32} {l : Lz}
/-- how the model tells one turn -/
def PrM (m : Nat → Int32) (x1 : Int32) (I : hs → Prop) (E : Nat → Nat → Bool) : Prop := (∀ T U, Fr OnP T U → I T → I U) ∧ ∀ T u v, I T → u < 40 → v < 40 → ∃ U, f_M_mayGo T (iN u) (iN v) x1 = some (bI (E u v), U) ∧ Fr (fun q => q = 200) T U
theorem nOn {a : Nat} (h : a < 200 ∨ 201 < a) : ¬ OnP a := fun q => by unfold OnP at q; omega
theorem PrM.law {w : Nat} (hw : w ≤ 9) (hl : LwM m l) : PrM m (iN w) (fun T => Tn T m ∧ gI T 191 3 = -1) (fun u v => mgC m l u v w) :=
  ⟨fun T U f h => ⟨h.1.fr f (nOn (by omega)), ((f 191 (nOn (by omega))).1 3).trans h.2⟩, fun T u v h hu hv => pM_mayGo h.1 hl h.2 hu hv hw⟩
theorem PrM.bits {b : Int32} (hb : ¬ b < 0) : PrM m 0 (fun T => Tn T m ∧ gI T 191 3 = b) (fun u v => mgB m b u v) :=
  ⟨fun T U f h => ⟨h.1.fr f (nOn (by omega)), ((f 191 (nOn (by omega))).1 3).trans h.2⟩, fun T u v h hu hv => ⟨T, pM_mayGoB h.1 hb h.2 hu hv, Fr.rfl'⟩⟩
theorem onto_in {x1 : Int32} {I : hs → Prop} {E : Nat → Nat → Bool} (hM : PrM m x1 I E) {K : hs → Int32 → Option (Int32 × hs)} {u : Nat} (hu : u < 40) : ∀ (r v n : Nat) (T : hs), I T → v + r = 40 → r < n → ∃ U, lp_M_findOnto_18 x1 (0 : Int32) (iN u) K n T (iN v) = K U (iN 40) ∧ Fr OnP T U ∧ (∀ w, w ≠ u → gJ U 201 w = gJ T 201 w) ∧ ∀ i, i < 64 → jb (gJ U 201 u) i = (jb (gJ T 201 u) i || (decide (v ≤ i) && decide (i < 40) && E u i)) := by
  intro r
  induction r with
  | zero =>
    intro v n T hI hv hn
    obtain ⟨n, rfl⟩ : ∃ q, n = q + 1 := ⟨n - 1, by omega⟩
    obtain rfl : v = 40 := by omega
    refine ⟨T, by rw [lp_M_findOnto_18, if_pos i40e], Fr.rfl', fun _ _ => rfl, fun i hi => ?_⟩
    by_cases z : 40 ≤ i
    · have : ¬ i < 40 := by omega
      simp [this]
    · simp [z]
  | succ r ih =>
    intro v n T hI hv hn
    obtain ⟨n, rfl⟩ : ∃ q, n = q + 1 := ⟨n - 1, by omega⟩
    obtain ⟨V, h1, h2⟩ := hM.2 T u v hI hu (by omega)
    have h2' : Fr OnP T V := h2.mono (fun _ z => Or.inl z)
    have step : ∀ b : Int64, jb b v = E u v → (∀ i, i ≠ v → jb b i = false) → ∃ U, lp_M_findOnto_18 x1 (0 : Int32) (iN u) K n (uJ V 201 u (gJ T 201 u ||| b)) (iN (v + 1)) = K U (iN 40) ∧ Fr OnP T U ∧ (∀ w, w ≠ u → gJ U 201 w = gJ T 201 w) ∧ ∀ i, i < 64 → jb (gJ U 201 u) i = (jb (gJ T 201 u) i || (decide (v ≤ i) && decide (i < 40) && E u i)) := by
      intro b hb1 hb2
      have f3 : Fr OnP T (uJ V 201 u (gJ T 201 u ||| b)) := h2'.uJ (Or.inr rfl)
      obtain ⟨U, h3, h4, h5, h6⟩ := ih (v + 1) n (uJ V 201 u (gJ T 201 u ||| b)) (hM.1 _ _ f3 hI) (by omega) (by omega)
      refine ⟨U, h3, f3.trans h4, fun w hw => by rw [h5 w hw, gJ_un hw]; exact (h2 201 (by decide)).2 w, fun i hi => ?_⟩
      rw [h6 i hi, gJ_us, jb_or]
      by_cases z : i = v
      · subst z
        rw [hb1]
        have : ¬ i + 1 ≤ i := by omega
        have h40 : i < 40 := by omega
        simp [this, h40]
      · rw [hb2 i z]
        by_cases z2 : v ≤ i
        · have : v + 1 ≤ i := by omega
          simp [z2, this]
        · have : ¬ v + 1 ≤ i := by omega
          simp [z2, this]
    rw [lp_M_findOnto_18, if_neg (i40 (by omega)), ck_of (iN_b (by omega) (by decide)), if_pos rfl, h1, bd_s, iN_c (by omega), iN_1]
    cases hE : E u v with
    | false =>
      rw [if_bI, bt_f]
      exact step 0 (by rw [jb_0, hE]) (fun i _ => jb_0 i)
    | true =>
      rw [if_bI, bt_t]
      exact step _ (by rw [jb_sh (by omega), hE]; simp) (fun i hi => by rw [jb_sh (by omega)]; simp [hi])
theorem onto_out {x1 : Int32} {I : hs → Prop} {E : Nat → Nat → Bool} (hM : PrM m x1 I E) : ∀ (r u n : Nat) (T : hs), I T → (∀ w, w < u → ∀ v, v < 64 → jb (gJ T 201 w) v = (decide (v < 40) && E w v)) → u + r = 40 → r < n → ∃ U, lp_M_findOnto_2 x1 (0 : Int32) n T (iN u) = some (0, U) ∧ Fr OnP T U ∧ On U E := by
  intro r
  induction r with
  | zero =>
    intro u n T hI hE hu hn
    obtain ⟨n, rfl⟩ : ∃ q, n = q + 1 := ⟨n - 1, by omega⟩
    obtain rfl : u = 40 := by omega
    exact ⟨T, by rw [lp_M_findOnto_2, if_pos i40e], Fr.rfl', hE⟩
  | succ r ih =>
    intro u n T hI hE hu hn
    obtain ⟨n, rfl⟩ : ∃ q, n = q + 1 := ⟨n - 1, by omega⟩
    have f0 : Fr OnP T (uJ T 201 u 0) := Fr.rfl'.uJ (Or.inr rfl)
    obtain ⟨V, h1, h2, h3, h4⟩ := onto_in hM (K := fun (S14 : hs) (y15 : Int32) => lp_M_findOnto_2 x1 (0 : Int32) n S14 (iN u + (1 : Int32))) (u := u) (by omega) 40 0 1000 (uJ T 201 u 0) (hM.1 _ _ f0 hI) (by omega) (by omega)
    have f2 := f0.trans h2
    obtain ⟨U, h5, h6, h7⟩ := ih (u + 1) n V (hM.1 _ _ f2 hI) (fun w hw v hv => by
      by_cases z : w = u
      · rw [z, h4 v hv, gJ_us, jb_0]; simp
      · rw [h3 w z, gJ_un z]; exact hE w (by omega) v hv) (by omega) (by omega)
    refine ⟨U, ?_, f2.trans h6, h7⟩
    rw [lp_M_findOnto_2, if_neg (i40 (by omega)), ck_of (iN_b (by omega) (by decide)), iN_c (by omega)]
    refine Eq.trans h1 ?_
    show lp_M_findOnto_2 x1 0 n V (iN u + 1) = _
    rw [iN_1]; exact h5
theorem pM_findOnto {x1 : Int32} {I : hs → Prop} {E : Nat → Nat → Bool} (hM : PrM m x1 I E) (hI : I S) : ∃ U, f_M_findOnto S x1 (0 : Int32) = some (0, U) ∧ Fr OnP S U ∧ On U E :=
  onto_out hM 40 0 1000 S hI (fun w hw => by omega) (by omega) (by omega)
end
