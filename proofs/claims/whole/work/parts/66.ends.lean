/-! The crossings of a set of courses; how many. -/
def IsE (m : Nat → Int32) (X : Int64) (Y : Int32) : Prop := ∀ c, c < 32 → (ib Y c = true ↔ ∃ w, w < 2 * nSt m ∧ jb X w = true ∧ enn m w = c)
/-- the crossings that can be come to from u, by E among C -/
def IsEE (m : Nat → Int32) (E : Nat → Nat → Bool) (C : Nat → Bool) (u : Nat) (Y : Int32) : Prop := ∀ c, c < 32 → (ib Y c = true ↔ ∃ w, w < 2 * nSt m ∧ RS (fun u v => E u v && C v) u w ∧ enn m w = c)
noncomputable def endZ (m : Nat → Int32) (E : Nat → Nat → Bool) (C : Nat → Bool) (u : Nat) : Int32 := @dite _ (∃ Y, IsEE m E C u Y) (Classical.propDecidable _) (fun h => Classical.choose h) (fun _ => 0)
theorem IsEE.uniq {m : Nat → Int32} {E : Nat → Nat → Bool} {C : Nat → Bool} {u : Nat} {Y Z : Int32} (h : IsEE m E C u Y) (h' : IsEE m E C u Z) : Y = Z := by
  apply ib_ext
  intro i hi
  have := (h i hi).trans (h' i hi).symm
  cases a : ib Y i <;> cases b : ib Z i <;> simp_all
theorem IsEE.z {m : Nat → Int32} {E : Nat → Nat → Bool} {C : Nat → Bool} {u : Nat} {Y : Int32} (h : IsEE m E C u Y) : Y = endZ m E C u := by
  have hx : ∃ Y, IsEE m E C u Y := ⟨Y, h⟩
  have e : endZ m E C u = Classical.choose hx := dif_pos hx
  rw [e]
  exact h.uniq (Classical.choose_spec hx)
/-- by turns among C, told in two ways -/
theorem RS_c {E : Nat → Nat → Bool} {C : Nat → Bool} {u : Nat} (hu : C u = true) (v : Nat) : RS (fun u v => E u v && C v) u v ↔ RS (fun u v => C u && C v && E u v) u v := by
  constructor
  · intro h
    exact (h.closed (P := fun x => RS (fun u v => C u && C v && E u v) u x ∧ C x = true) (fun x y hx hxy => by
      simp only [Bool.and_eq_true] at hxy
      exact ⟨hx.1.snoc (by simp [hx.2, hxy.1, hxy.2]), hxy.2⟩) ⟨RS.rfl', hu⟩).1
  · intro h
    exact h.closed (P := fun x => RS (fun u v => E u v && C v) u x) (fun x y hx hxy => by
      simp only [Bool.and_eq_true] at hxy
      exact hx.snoc (by simp [hxy.1.2, hxy.2])) RS.rfl'
section
variable {k : cx} {S S1 S2 T : hs} {m m' : Nat → Int32} {l : Lz}
theorem we_l {E : Nat → Nat → Bool} (hW : Wy S m E) (v0 : VM m) {X : Int64} : ∀ (r u n : Nat) (acc : Int32), u + r = 2 * nSt m → r < n → ∃ Y, lp_W_endsOf_5 X n S acc (iN u) = some (Y, S) ∧ ∀ c, c < 32 → (ib Y c = true ↔ (ib acc c = true ∨ ∃ w, u ≤ w ∧ w < 2 * nSt m ∧ jb X w = true ∧ enn m w = c)) := by
  have hss := v0.s.2
  have hcc := v0.c.2
  intro r
  induction r with
  | zero =>
    intro u n acc hu hn
    obtain ⟨n, rfl⟩ : ∃ q, n = q + 1 := ⟨n - 1, by omega⟩
    refine ⟨acc, by rw [lp_W_endsOf_5, hW.1.1, if_pos ((iN_le (by omega) (by omega)).mpr (by omega))], fun c hc => ⟨Or.inl, fun h => h.elim id (fun ⟨w, h1, h2, _⟩ => by omega)⟩⟩
  | succ r ih =>
    intro u n acc hu hn
    obtain ⟨n, rfl⟩ : ∃ q, n = q + 1 := ⟨n - 1, by omega⟩
    rw [lp_W_endsOf_5, hW.1.1, if_neg (fun z => by have := (iN_le (by omega) (by omega)).mp z; omega), pX_isIn (by omega), bd_s, if_bI, iN_1]
    have he := enn_lt v0 (u := u) (by omega)
    cases hf : jb X u with
    | false =>
      obtain ⟨Y, h1, h2⟩ := ih (u + 1) n (acc ||| 0) (by omega) (by omega)
      refine ⟨Y, by rw [bt_f]; exact h1, fun c hc => ?_⟩
      rw [h2 c hc, ib_or, ib_0, Bool.or_false]
      constructor
      · rintro (h | ⟨w, a, b⟩)
        · exact Or.inl h
        · exact Or.inr ⟨w, by omega, b⟩
      · rintro (h | ⟨w, a, b, c, d⟩)
        · exact Or.inl h
        · by_cases z : w = u
          · subst z; rw [hf] at c; exact absurd c (by decide)
          · exact Or.inr ⟨w, by omega, b, c, d⟩
    | true =>
      obtain ⟨Y, h1, h2⟩ := ih (u + 1) n (acc ||| ((1 : Int32) <<< (iN (enn m u) &&& 31))) (by omega) (by omega)
      refine ⟨Y, by rw [bt_t, ck_of (iN_b (by omega) (by decide)), iN_c (by omega), (hW.1.2.2.1 u (by omega)).2.1]; exact h1, fun c hc => ?_⟩
      rw [h2 c hc, ib_or, ib_sh (by omega)]
      constructor
      · rintro (h | ⟨w, a, b⟩)
        · simp only [Bool.or_eq_true, decide_eq_true_eq] at h
          rcases h with h | h
          · exact Or.inl h
          · exact Or.inr ⟨u, Nat.le_refl _, by omega, hf, h.symm⟩
        · exact Or.inr ⟨w, by omega, b⟩
      · rintro (h | ⟨w, a, b, c, d⟩)
        · exact Or.inl (by rw [h]; rfl)
        · by_cases z : w = u
          · subst z; exact Or.inl (by rw [d]; simp)
          · exact Or.inr ⟨w, by omega, b, c, d⟩
theorem pW_endsOf {E : Nat → Nat → Bool} (hW : Wy S m E) (v0 : VM m) (X : Int64) : ∃ Y, f_W_endsOf S X = some (Y, S) ∧ IsE m X Y := by
  have hss := v0.s.2
  obtain ⟨Y, h1, h2⟩ := we_l hW v0 (X := X) (2 * nSt m) 0 1000 0 (by omega) (by omega)
  refine ⟨Y, h1, fun c hc => ?_⟩
  rw [h2 c hc, ib_0]
  constructor
  · rintro (h | ⟨w, _, b⟩)
    · exact absurd h (by decide)
    · exact ⟨w, b⟩
  · rintro ⟨w, b⟩
    exact Or.inr ⟨w, by omega, b⟩
theorem me_l (hn : Tn S m) {X : Int64} (hX : ∀ w, jb X w = true → w < 2 * nSt m) : ∀ (r u n : Nat) (acc : Int32), u + r = 40 → r < n → ∃ Y, lp_M_endsOf_5 X n S acc (iN u) = some (Y, S) ∧ ∀ c, c < 32 → (ib Y c = true ↔ (ib acc c = true ∨ ∃ w, u ≤ w ∧ w < 2 * nSt m ∧ jb X w = true ∧ enn m w = c)) := by
  have v0 := hn.1
  have hss := v0.s.2
  have hcc := v0.c.2
  intro r
  induction r with
  | zero =>
    intro u n acc hu hn
    obtain ⟨n, rfl⟩ : ∃ q, n = q + 1 := ⟨n - 1, by omega⟩
    obtain rfl : u = 40 := by omega
    refine ⟨acc, by rw [lp_M_endsOf_5, if_pos i40e], fun c hc => ⟨Or.inl, fun h => h.elim id (fun ⟨w, h1, h2, _⟩ => by omega)⟩⟩
  | succ r ih =>
    intro u n acc hu hn2
    obtain ⟨n, rfl⟩ : ∃ q, n = q + 1 := ⟨n - 1, by omega⟩
    rw [lp_M_endsOf_5, if_neg (i40 (by omega)), pM_hasBit (by omega), bd_s, if_bI, iN_1]
    cases hf : jb X u with
    | false =>
      obtain ⟨Y, h1, h2⟩ := ih (u + 1) n (acc ||| 0) (by omega) (by omega)
      refine ⟨Y, by rw [bt_f]; exact h1, fun c hc => ?_⟩
      rw [h2 c hc, ib_or, ib_0, Bool.or_false]
      constructor
      · rintro (h | ⟨w, a, b⟩)
        · exact Or.inl h
        · exact Or.inr ⟨w, by omega, b⟩
      · rintro (h | ⟨w, a, b, c, d⟩)
        · exact Or.inl h
        · by_cases z : w = u
          · subst z; rw [hf] at c; exact absurd c (by decide)
          · exact Or.inr ⟨w, by omega, b, c, d⟩
    | true =>
      have hu2 := hX u hf
      have he := enn_lt v0 hu2
      obtain ⟨Y, h1, h2⟩ := ih (u + 1) n (acc ||| ((1 : Int32) <<< (iN (enn m u) &&& 31))) (by omega) (by omega)
      refine ⟨Y, by rw [bt_t, pM_endOf hn hu2, bd_s]; exact h1, fun c hc => ?_⟩
      rw [h2 c hc, ib_or, ib_sh (by omega)]
      constructor
      · rintro (h | ⟨w, a, b⟩)
        · simp only [Bool.or_eq_true, decide_eq_true_eq] at h
          rcases h with h | h
          · exact Or.inl h
          · exact Or.inr ⟨u, Nat.le_refl _, by omega, hf, h.symm⟩
        · exact Or.inr ⟨w, by omega, b⟩
      · rintro (h | ⟨w, a, b, c, d⟩)
        · exact Or.inl (by rw [h]; rfl)
        · by_cases z : w = u
          · subst z; exact Or.inl (by rw [d]; simp)
          · exact Or.inr ⟨w, by omega, b, c, d⟩
theorem pM_endsOf (hn : Tn S m) {X : Int64} (hX : ∀ w, jb X w = true → w < 2 * nSt m) : ∃ Y, f_M_endsOf S X = some (Y, S) ∧ IsE m X Y := by
  obtain ⟨Y, h1, h2⟩ := me_l hn hX 40 0 1000 0 (by omega) (by omega)
  refine ⟨Y, h1, fun c hc => ?_⟩
  rw [h2 c hc, ib_0]
  constructor
  · rintro (h | ⟨w, _, b⟩)
    · exact absurd h (by decide)
    · exact ⟨w, b⟩
  · rintro ⟨w, b⟩
    exact Or.inr ⟨w, by omega, b⟩
/-- the class's crossings from a course, among 'there' -/
theorem W_ends {E : Nat → Nat → Bool} (hW : Wy S m E) (v0 : VM m) {there : Int64} {C : Nat → Bool} (hC : ∀ v, v < 64 → jb there v = C v) {u : Nat} (hu : u < 2 * nSt m) (hE : ∀ u v, E u v = true → v < 2 * nSt m) : ∃ X, f_W_coursesFrom S (iN u) there = some (X, S) ∧ (∀ v, v < 64 → (jb X v = true ↔ RS (fun u v => E u v && C v) u v)) ∧ f_W_endsOf S X = some (endZ m E C u, S) ∧ IsEE m E C u (endZ m E C u) := by
  have hss := v0.s.2
  obtain ⟨X, h1, h2⟩ := pW_coursesFrom hW v0 (there := there) hu hE
  have e : (fun u v => E u v && jb there v) = fun u v => E u v && C v := by
    funext x y
    cases q : E x y with
    | false => rfl
    | true => rw [hC y (by have := hE x y q; omega)]
  rw [e] at h2
  obtain ⟨Y, h3, h4⟩ := pW_endsOf hW v0 X
  have h5 : IsEE m E C u Y := fun c hc => by
    rw [h4 c hc]
    constructor
    · rintro ⟨w, a, b, d⟩; exact ⟨w, a, (h2 w (by omega)).mp b, d⟩
    · rintro ⟨w, a, b, d⟩; exact ⟨w, a, (h2 w (by omega)).mpr b, d⟩
  have h6 := h5.z
  subst h6
  exact ⟨X, h1, h2, h3, h5⟩
theorem M_ends {E : Nat → Nat → Bool} (hn : Tn S m) (hO : On S (fun u v => cIs m u && cIs m v && E u v)) {u : Nat} (cu : cIs m u = true) : ∃ X, f_M_comeTo S (iN u) = some (X, S) ∧ (∀ v, v < 64 → (jb X v = true ↔ RS (fun u v => E u v && cIs m v) u v)) ∧ f_M_endsOf S X = some (endZ m E (cIs m) u, S) := by
  have hss := hn.1.s.2
  have hu := cIs_lt cu
  have hE : ∀ x y, (cIs m x && cIs m y && E x y) = true → y < 2 * nSt m := fun x y h => by
    simp only [Bool.and_eq_true] at h
    exact cIs_lt h.1.2
  obtain ⟨X, h1, h2⟩ := pM_comeTo hO (c := u) (by omega) (fun x y h => by have := hE x y h; omega)
  have h2' : ∀ v, v < 64 → (jb X v = true ↔ RS (fun u v => E u v && cIs m v) u v) := fun v hv => (h2 v hv).trans (RS_c cu v).symm
  have hX : ∀ w, jb X w = true → w < 2 * nSt m := fun w hw => by
    have w64 : w < 64 := by
      rcases Nat.lt_or_ge w 64 with q | q
      · exact q
      · rw [jb_big q] at hw; exact absurd hw (by decide)
    exact ((h2 w w64).mp hw).closed (P := fun x => x < 2 * nSt m) (fun x y _ h => hE x y h) hu
  obtain ⟨Y, h3, h4⟩ := pM_endsOf hn hX
  have h5 : IsEE m E (cIs m) u Y := fun c hc => by
    rw [h4 c hc]
    constructor
    · rintro ⟨w, a, b, d⟩; exact ⟨w, a, (h2' w (by omega)).mp b, d⟩
    · rintro ⟨w, a, b, d⟩; exact ⟨w, a, (h2' w (by omega)).mpr b, d⟩
  have h6 := h5.z
  subst h6
  exact ⟨X, h1, h2', h3⟩
/-- how many bits -/
def pcn (x : Nat) : Nat := (bcI (iN x)).toNatClampNeg
theorem pcn_1 : ∀ a, a < 64 → ∀ b, b < 64 → bcI (iN (64 * a + b)) = iN (pcn (64 * a + b)) ∧ pcn (64 * a + b) ≤ 12 ∧ (pcn (64 * a + b) = 0 → 64 * a + b = 0) := by decide +kernel
theorem pcn_2 : ∀ a, a < 64 → ∀ b, b < 64 → ¬ 64 * a + b = 0 → (iN (64 * a + b)).toInt64 &&& ((iN (64 * a + b)).toInt64 - (1 : Int64)) = (iN ((64 * a + b) &&& (64 * a + b - 1))).toInt64 ∧ pcn ((64 * a + b) &&& (64 * a + b - 1)) + 1 = pcn (64 * a + b) := by decide +kernel
theorem pcn_a {x : Nat} (h : x < 4096) : bcI (iN x) = iN (pcn x) ∧ pcn x ≤ 12 ∧ (pcn x = 0 → x = 0) := by
  have := pcn_1 (x / 64) (by omega) (x % 64) (by omega)
  rw [show 64 * (x / 64) + x % 64 = x by omega] at this
  exact this
theorem pcn_b {x : Nat} (h : x < 4096) (hx : ¬ x = 0) : (iN x).toInt64 &&& ((iN x).toInt64 - (1 : Int64)) = (iN (x &&& (x - 1))).toInt64 ∧ pcn (x &&& (x - 1)) + 1 = pcn x := by
  have := pcn_2 (x / 64) (by omega) (x % 64) (by omega)
  rw [show 64 * (x / 64) + x % 64 = x by omega] at this
  exact this hx
theorem ones_l : ∀ (k x n : Nat) (acc : Int32), x < 4096 → pcn x = k → k < n → lp_M_ones_4 n S acc (iN x).toInt64 = some (acc + iN k, S) := by
  intro k
  induction k with
  | zero =>
    intro x n acc hx hk hn
    obtain ⟨n, rfl⟩ : ∃ q, n = q + 1 := ⟨n - 1, by omega⟩
    have := (pcn_a hx).2.2 hk
    subst this
    rw [lp_M_ones_4, if_pos ((lg0 _ _).mpr (by decide)), show acc + iN 0 = acc from Int32.add_zero acc]
  | succ k ih =>
    intro x n acc hx hk hn
    obtain ⟨n, rfl⟩ : ∃ q, n = q + 1 := ⟨n - 1, by omega⟩
    have hx0 : ¬ x = 0 := fun z => by subst z; exact absurd hk (by show ¬ pcn 0 = k + 1; have : pcn 0 = 0 := by decide
                                                                   omega)
    obtain ⟨h1, h2⟩ := pcn_b hx hx0
    have hne : ¬ (iN x).toInt64 = 0 := fun z => by
      have := congrArg Int64.toInt z
      rw [Int32.toInt_toInt64, iN_i (by omega)] at this
      exact hx0 (by have : (x : Int) = 0 := this; omega)
    rw [lp_M_ones_4, if_neg (fun y => hne ((lg0 _ _).mp y)), h1, ih _ n _ (Nat.lt_of_le_of_lt Nat.and_le_left hx) (by omega) (by omega), Int32.add_assoc]
    show some (acc + (iN 1 + iN k), S) = _
    rw [iN_a, Nat.add_comm]
theorem endZ_s (v0 : VM m) {E : Nat → Nat → Bool} {C : Nat → Bool} {u : Nat} (h : IsEE m E C u (endZ m E C u)) : ∃ x : Nat, endZ m E C u = iN x ∧ x < 4096 := by
  have hcc := v0.c.2
  have e2 : ∀ x : Int32, x = iN x.toBitVec.toNat := fun x => Int32.toBitVec_inj.1 (by show x.toBitVec = BitVec.ofNat 32 _; rw [BitVec.ofNat_toNat, BitVec.setWidth_eq])
  refine ⟨(endZ m E C u).toBitVec.toNat, e2 _, ?_⟩
  refine Nat.lt_pow_two_of_testBit (n := 12) _ (fun i hi => ?_)
  show (endZ m E C u).toBitVec.getLsbD i = false
  by_cases z : i < 32
  · refine Bool.eq_false_iff.mpr (fun q => ?_)
    obtain ⟨w, a, b, d⟩ := (h i z).mp q
    have := enn_lt v0 a
    omega
  · exact BitVec.getLsbD_of_ge _ _ (by omega)
end
