/-! What can be come to, by both. -/
def Rc (E : Nat → Nat → Bool) : Nat → Nat → Nat → Prop
  | 0, u, v => u = v
  | n + 1, u, v => ∃ x, E u x = true ∧ Rc E n x v
def RS (E : Nat → Nat → Bool) (u v : Nat) : Prop := ∃ n, Rc E n u v
theorem Rc.snoc {E : Nat → Nat → Bool} : ∀ {n u v w : Nat}, Rc E n u v → E v w = true → Rc E (n + 1) u w
  | 0, u, v, w, h, e => by
    have h : u = v := h
    subst h
    exact ⟨w, e, rfl⟩
  | n + 1, u, v, w, ⟨x, h1, h2⟩, e => ⟨x, h1, Rc.snoc h2 e⟩
theorem RS.rfl' {E : Nat → Nat → Bool} {u : Nat} : RS E u u := ⟨0, rfl⟩
theorem RS.snoc {E : Nat → Nat → Bool} {u v w : Nat} (h : RS E u v) (e : E v w = true) : RS E u w := by
  obtain ⟨n, h⟩ := h
  exact ⟨n + 1, h.snoc e⟩
theorem Rc.closed {E : Nat → Nat → Bool} {P : Nat → Prop} (hP : ∀ x y, P x → E x y = true → P y) : ∀ {n u v : Nat}, Rc E n u v → P u → P v
  | 0, u, v, h, p => by
    have h : u = v := h
    subst h; exact p
  | n + 1, u, v, ⟨x, h1, h2⟩, p => Rc.closed hP h2 (hP u x p h1)
theorem RS.closed {E : Nat → Nat → Bool} {P : Nat → Prop} (hP : ∀ x y, P x → E x y = true → P y) {u v : Nat} (h : RS E u v) (p : P u) : P v := by
  obtain ⟨n, h⟩ := h
  exact h.closed hP p
/-- X is the set of what can be come to from u -/
def IsR (E : Nat → Nat → Bool) (u : Nat) (X : Int64) : Prop := ∀ v, v < 64 → (jb X v = true ↔ RS E u v)
theorem IsR.uniq {E E' : Nat → Nat → Bool} {u : Nat} {X Y : Int64} (h : IsR E u X) (h' : IsR E' u Y) (e : ∀ v, v < 64 → (RS E u v ↔ RS E' u v)) : X = Y := by
  apply jb_ext
  intro i hi
  have := (h i hi).trans ((e i hi).trans (h' i hi).symm)
  cases a : jb X i <;> cases b : jb Y i <;> simp_all
section
variable {k : cx} {S S1 S2 T : hs} {m m' : Nat → Int32} {l : Lz}
theorem cf_l {E : Nat → Nat → Bool} (hW : Wy S m E) (v0 : VM m) {there : Int64} {c : Nat} (hE : ∀ u v, E u v = true → v < 2 * nSt m) : ∀ (r n : Nat) (seen todo : Int64) (i : Nat), i + r = 2 * nSt m → r < n →
    jb seen c = true → (∀ v, jb todo v = true → jb seen v = true) → (∀ v, jb seen v = true → RS (fun u v => E u v && jb there v) c v ∧ v < 2 * nSt m) → (∀ x y, jb seen x = true → jb todo x = false → (E x y && jb there y) = true → jb seen y = true) → i ≤ cnt (fun x => jb seen x && !jb todo x) (2 * nSt m) →
    ∃ X, lp_W_coursesFrom_12 there n S seen todo (iN i) = some (X, S) ∧ IsR (fun u v => E u v && jb there v) c X := by
  have hss := v0.s.2
  intro r
  induction r with
  | zero =>
    intro n seen todo i hi hn a1 a2 a3 a4 a5
    obtain ⟨n, rfl⟩ : ∃ q, n = q + 1 := ⟨n - 1, by omega⟩
    refine ⟨seen, by rw [lp_W_coursesFrom_12, hW.1.1, if_pos ((iN_le (by omega) (by omega)).mpr (by omega))], fun v hv => ⟨fun q => (a3 v q).1, fun q => ?_⟩⟩
    have full : ∀ x, x < 2 * nSt m → jb todo x = false := fun x hx => by
      have := cnt_full (p := fun x => jb seen x && !jb todo x) (n := 2 * nSt m) (by omega) hx
      simp only [Bool.and_eq_true, Bool.not_eq_true'] at this
      exact this.2
    refine q.closed (P := fun x => jb seen x = true) (fun x y hx hxy => a4 x y hx (full x (a3 x hx).2) hxy) a1
  | succ r ih =>
    intro n seen todo i hi hn a1 a2 a3 a4 a5
    obtain ⟨n, rfl⟩ : ∃ q, n = q + 1 := ⟨n - 1, by omega⟩
    rw [lp_W_coursesFrom_12, hW.1.1, if_neg (fun z => by have := (iN_le (by omega) (by omega)).mp z; omega)]
    by_cases z : todo = 0
    · rw [if_pos ((lg0 _ _).mpr z)]
      refine ⟨seen, rfl, fun v hv => ⟨fun q => (a3 v q).1, fun q => ?_⟩⟩
      refine q.closed (P := fun x => jb seen x = true) (fun x y hx hxy => a4 x y hx (by rw [z, jb_0]) hxy) a1
    · rw [if_neg (fun y => z ((lg0 _ _).mp y))]
      obtain ⟨u, hu, h1, h2⟩ := pJ_ntz (S := S) z
      have hu2 := (a3 u (a2 u h2)).2
      rw [h1, bd_s, hW.1.1, if_neg (fun z => by have := (iN_le (by omega) (by omega)).mp z; omega), ck_of (iN_b (by omega) (by decide)), iN_c (by omega), iN_1]
      have bf : ∀ v, v < 64 → jb ((gJ S 142 u &&& there) &&& (seen ^^^ (-1 : Int64))) v = ((E u v && jb there v) && !jb seen v) := fun v hv => by rw [jb_and, jb_and, jb_not _ hv, hW.2 u hu2 v hv]
      have bg : ∀ v, 64 ≤ v → ∀ x : Int64, jb x v = false := fun v hv x => jb_big hv
      have bt : ∀ v, v < 64 → jb ((todo &&& (((1 : Int64) <<< ((iN u).toInt64 &&& 63)) ^^^ (-1 : Int64))) ||| ((gJ S 142 u &&& there) &&& (seen ^^^ (-1 : Int64)))) v = ((jb todo v && !decide (v = u)) || ((E u v && jb there v) && !jb seen v)) := fun v hv => by rw [jb_or, jb_and, jb_not _ hv, jb_sh (by omega), bf v hv]
      have bs : ∀ v, v < 64 → jb (seen ||| ((gJ S 142 u &&& there) &&& (seen ^^^ (-1 : Int64)))) v = (jb seen v || ((E u v && jb there v) && !jb seen v)) := fun v hv => by rw [jb_or, bf v hv]
      have lt64 : ∀ {x : Int64} {v : Nat}, jb x v = true → v < 64 := fun {x v} h => by
        rcases Nat.lt_or_ge v 64 with q | q
        · exact q
        · rw [jb_big q] at h; exact absurd h (by decide)
      refine ih n _ _ (i + 1) (by omega) (by omega) ?_ (fun v h => ?_) (fun v h => ?_) (fun x y hx hy hxy => ?_) ?_
      · rw [jb_or, a1]; rfl
      · have hv := lt64 h
        rw [bt v hv] at h
        rw [bs v hv]
        cases q : jb seen v with
        | true => rfl
        | false =>
          have : jb todo v = false := Bool.eq_false_iff.mpr (fun y => by rw [a2 v y] at q; exact absurd q (by decide))
          rw [this, q] at h
          simpa using h
      · have hv := lt64 h
        rw [bs v hv] at h
        cases q : jb seen v with
        | true => exact a3 v q
        | false =>
          rw [q] at h
          simp only [Bool.false_or, Bool.not_false, Bool.and_true] at h
          refine ⟨(a3 u (a2 u h2)).1.snoc h, ?_⟩
          simp only [Bool.and_eq_true] at h
          exact hE u v h.1
      · have hx64 := lt64 hx
        rw [bs x hx64] at hx
        rw [bt x hx64] at hy
        simp only [Bool.or_eq_false_iff] at hy
        have hsx : jb seen x = true := by
          rw [hy.2, Bool.or_false] at hx; exact hx
        have hy64 : y < 64 := by
          simp only [Bool.and_eq_true] at hxy
          have := hE x y hxy.1
          omega
        rw [bs y hy64]
        by_cases zx : x = u
        · subst zx
          rw [hxy]
          cases jb seen y <;> rfl
        · have : jb todo x = false := by
            have := hy.1
            simpa [zx] using this
          rw [a4 x y hsx this hxy]; rfl
      · refine Nat.lt_of_le_of_lt a5 (cnt_lt (fun x hx h => ?_) ⟨u, hu2, ?_, ?_⟩)
        · simp only [Bool.and_eq_true, Bool.not_eq_true'] at h ⊢
          have x64 : x < 64 := by omega
          rw [bs x x64, bt x x64, h.1, h.2]
          simp
        · simp [h2]
        · simp only [Bool.and_eq_true, Bool.not_eq_true']
          rw [bs u hu, bt u hu, a2 u h2]
          simp
theorem pW_coursesFrom {E : Nat → Nat → Bool} (hW : Wy S m E) (v0 : VM m) {there : Int64} {c : Nat} (hc : c < 2 * nSt m) (hE : ∀ u v, E u v = true → v < 2 * nSt m) : ∃ X, f_W_coursesFrom S (iN c) there = some (X, S) ∧ IsR (fun u v => E u v && jb there v) c X := by
  have hss := v0.s.2
  have b1 : ∀ v, jb ((1 : Int64) <<< ((iN c).toInt64 &&& 63)) v = decide (v = c) := fun v => jb_sh (by omega) v
  refine cf_l hW v0 hE (2 * nSt m) 1000 _ _ 0 (by omega) (by omega) (by rw [b1]; simp) (fun v h => h) (fun v h => ?_) (fun x y h1 h2 => ?_) (by omega)
  · rw [b1, decide_eq_true_eq] at h
    subst h
    exact ⟨RS.rfl', hc⟩
  · rw [h1] at h2; exact absurd h2 (by decide)
theorem ct_in {E : Nat → Nat → Bool} (hO : On S E) {set0 fresh : Int64} {K : hs → Int64 → Int32 → Option (Int64 × hs)} : ∀ (r u n : Nat) (acc : Int64), u + r = 40 → r < n → ∃ acc', lp_M_comeTo_30 set0 fresh K n S acc (iN u) = K S acc' (iN 40) ∧ ∀ v, v < 64 → (jb acc' v = true ↔ (jb acc v = true ∨ ∃ w, u ≤ w ∧ w < 40 ∧ jb fresh w = true ∧ v < 40 ∧ E w v = true)) := by
  intro r
  induction r with
  | zero =>
    intro u n acc hu hn
    obtain ⟨n, rfl⟩ : ∃ q, n = q + 1 := ⟨n - 1, by omega⟩
    obtain rfl : u = 40 := by omega
    refine ⟨acc, by rw [lp_M_comeTo_30, if_pos i40e], fun v hv => ⟨Or.inl, fun h => h.elim id (fun ⟨w, h1, h2, _⟩ => by omega)⟩⟩
  | succ r ih =>
    intro u n acc hu hn
    obtain ⟨n, rfl⟩ : ∃ q, n = q + 1 := ⟨n - 1, by omega⟩
    rw [lp_M_comeTo_30, if_neg (i40 (by omega)), pM_hasBit (by omega), bd_s, if_bI, iN_1]
    cases hf : jb fresh u with
    | false =>
      obtain ⟨acc', h1, h2⟩ := ih (u + 1) n (acc ||| 0) (by omega) (by omega)
      refine ⟨acc', by rw [bt_f]; exact h1, fun v hv => ?_⟩
      rw [h2 v hv, jb_or, jb_0, Bool.or_false]
      constructor
      · rintro (h | ⟨w, a, b⟩)
        · exact Or.inl h
        · exact Or.inr ⟨w, by omega, b⟩
      · rintro (h | ⟨w, a, b, c, d⟩)
        · exact Or.inl h
        · by_cases z : w = u
          · subst z; rw [hf] at c; exact absurd c (by decide)
          · exact Or.inr ⟨w, by omega, b, c, d⟩
    | true =>
      obtain ⟨acc', h1, h2⟩ := ih (u + 1) n (acc ||| gJ S 201 u) (by omega) (by omega)
      refine ⟨acc', by rw [bt_t, ck_of (iN_b (by omega) (by decide)), iN_c (by omega)]; exact h1, fun v hv => ?_⟩
      rw [h2 v hv, jb_or, hO u (by omega) v hv]
      constructor
      · rintro (h | ⟨w, a, b⟩)
        · simp only [Bool.or_eq_true, Bool.and_eq_true, decide_eq_true_eq] at h
          rcases h with h | h
          · exact Or.inl h
          · exact Or.inr ⟨u, Nat.le_refl _, by omega, hf, h.1, h.2⟩
        · exact Or.inr ⟨w, by omega, b⟩
      · rintro (h | ⟨w, a, b, c, d, e⟩)
        · exact Or.inl (by rw [h]; rfl)
        · by_cases z : w = u
          · subst z
            exact Or.inl (by rw [e]; simp [d])
          · exact Or.inr ⟨w, by omega, b, c, d, e⟩
theorem ct_l {E : Nat → Nat → Bool} (hO : On S E) {c : Nat} (hE : ∀ u v, E u v = true → v < 40) : ∀ (r n : Nat) (set was : Int64), r < n → jb set c = true → (∀ v, jb was v = true → jb set v = true) → (∀ v, jb set v = true → RS E c v ∧ v < 40) → (∀ x y, jb was x = true → E x y = true → jb set y = true) → 40 ≤ cnt (fun x => jb was x) 40 + r →
    ∃ X, lp_M_comeTo_7 n S set was = some (X, S) ∧ IsR E c X := by
  intro r
  induction r with
  | zero =>
    intro n set was hn a1 a2 a3 a4 a5
    obtain ⟨n, rfl⟩ : ∃ q, n = q + 1 := ⟨n - 1, by omega⟩
    have e : set = was := by
      apply jb_ext
      intro i hi
      cases q : jb set i with
      | false => exact (Bool.eq_false_iff.mpr (fun y => by rw [a2 i y] at q; exact absurd q (by decide))).symm
      | true => exact (cnt_full (p := fun x => jb was x) (n := 40) (by omega) (a3 i q).2).symm
    subst e
    refine ⟨set, by rw [lp_M_comeTo_7, if_pos ((lg0 _ _).mpr rfl)], fun v hv => ⟨fun q => (a3 v q).1, fun q => q.closed (P := fun x => jb set x = true) (fun x y hx hxy => a4 x y hx hxy) a1⟩⟩
  | succ r ih =>
    intro n set was hn a1 a2 a3 a4 a5
    obtain ⟨n, rfl⟩ : ∃ q, n = q + 1 := ⟨n - 1, by omega⟩
    rw [lp_M_comeTo_7]
    by_cases z : set = was
    · subst z
      rw [if_pos ((lg0 _ _).mpr rfl)]
      exact ⟨set, rfl, fun v hv => ⟨fun q => (a3 v q).1, fun q => q.closed (P := fun x => jb set x = true) (fun x y hx hxy => a4 x y hx hxy) a1⟩⟩
    · rw [if_neg (fun y => z ((lg0 _ _).mp y))]
      obtain ⟨acc, h1, h2⟩ := ct_in hO (set0 := set) (fresh := set &&& (was ^^^ (-1 : Int64))) (K := fun (S8 : hs) (y9 : Int64) (y10 : Int32) => lp_M_comeTo_7 n S8 y9 set) 40 0 1000 set (by omega) (by omega)
      have lt64 : ∀ {x : Int64} {v : Nat}, jb x v = true → v < 64 := fun {x v} h => by
        rcases Nat.lt_or_ge v 64 with q | q
        · exact q
        · rw [jb_big q] at h; exact absurd h (by decide)
      have bf : ∀ v, v < 64 → jb (set &&& (was ^^^ (-1 : Int64))) v = (jb set v && !jb was v) := fun v hv => by rw [jb_and, jb_not _ hv]
      obtain ⟨X, h3, h4⟩ := ih n acc set (by omega) ((h2 c (lt64 a1)).mpr (Or.inl a1)) (fun v h => (h2 v (lt64 h)).mpr (Or.inl h)) (fun v h => by
        rcases (h2 v (lt64 h)).mp h with q | ⟨w, -, b, c1, d, e⟩
        · exact a3 v q
        · rw [bf w (by omega)] at c1
          simp only [Bool.and_eq_true] at c1
          exact ⟨(a3 w c1.1).1.snoc e, d⟩) (fun x y hx hxy => by
        have y40 := hE x y hxy
        refine (h2 y (by omega)).mpr ?_
        cases q : jb was x with
        | true => exact Or.inl (a4 x y q hxy)
        | false => exact Or.inr ⟨x, by omega, (a3 x hx).2, by rw [bf x (lt64 hx), hx, q]; rfl, y40, hxy⟩) (by
        have : cnt (fun x => jb was x) 40 < cnt (fun x => jb set x) 40 := by
          refine cnt_lt (fun x _ h => a2 x h) ?_
          refine Classical.byContradiction fun no => z ?_
          apply jb_ext
          intro i hi
          cases q : jb set i with
          | false => exact (Bool.eq_false_iff.mpr (fun y => by rw [a2 i y] at q; exact absurd q (by decide))).symm
          | true =>
            cases q2 : jb was i with
            | true => rfl
            | false => exact absurd ⟨i, (a3 i q).2, q2, q⟩ no
        omega)
      exact ⟨X, Eq.trans h1 h3, h4⟩
theorem pM_comeTo {E : Nat → Nat → Bool} (hO : On S E) {c : Nat} (hc : c < 40) (hE : ∀ u v, E u v = true → v < 40) : ∃ X, f_M_comeTo S (iN c) = some (X, S) ∧ IsR E c X := by
  have b1 : ∀ v, jb ((1 : Int64) <<< ((iN c).toInt64 &&& 63)) v = decide (v = c) := fun v => jb_sh (by omega) v
  refine ct_l hO hE 40 1000 _ 0 (by omega) (by rw [b1]; simp) (fun v h => by rw [jb_0] at h; exact absurd h (by decide)) (fun v h => ?_) (fun x y h1 h2 => by rw [jb_0] at h1; exact absurd h1 (by decide)) (by omega)
  rw [b1, decide_eq_true_eq] at h
  subst h
  exact ⟨RS.rfl', hc⟩
end
