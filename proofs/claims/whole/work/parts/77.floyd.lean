/-! Freely: walks from crossing to crossing; the class's table. -/
def Wq (R : Nat → Nat → Nat → Prop) : Nat → Nat → Nat → Nat → Prop
  | 0, u, v, w => u = v ∧ w = 0
  | n + 1, u, v, w => ∃ x w1 w2, R u x w1 ∧ Wq R n x v w2 ∧ w = w1 + w2
def WQ (R : Nat → Nat → Nat → Prop) (u v w : Nat) : Prop := ∃ n, Wq R n u v w
theorem WQ.rfl' {R : Nat → Nat → Nat → Prop} {u : Nat} : WQ R u u 0 := ⟨0, rfl, rfl⟩
theorem WQ.one {R : Nat → Nat → Nat → Prop} {u v w : Nat} (h : R u v w) : WQ R u v w := ⟨1, v, w, 0, h, ⟨rfl, rfl⟩, by omega⟩
theorem Wq.app {R : Nat → Nat → Nat → Prop} : ∀ {n k u v x w w' : Nat}, Wq R n u v w → Wq R k v x w' → Wq R (n + k) u x (w + w')
  | 0, k, u, v, x, w, w', ⟨h1, h2⟩, h => by
    subst h1; subst h2
    rw [Nat.zero_add, Nat.zero_add]; exact h
  | n + 1, k, u, v, x, w, w', ⟨y, w1, w2, a, b, c⟩, h => by
    rw [Nat.succ_add]
    exact ⟨y, w1, w2 + w', a, Wq.app b h, by omega⟩
theorem WQ.trans {R : Nat → Nat → Nat → Prop} {u v x w w' : Nat} (h : WQ R u v w) (h' : WQ R v x w') : WQ R u x (w + w') := by
  obtain ⟨n, h⟩ := h
  obtain ⟨k, h'⟩ := h'
  exact ⟨n + k, h.app h'⟩
theorem Wq.last {R : Nat → Nat → Nat → Prop} : ∀ {n u v w : Nat}, Wq R (n + 1) u v w → ∃ x w1 w2, Wq R n u x w1 ∧ R x v w2 ∧ w = w1 + w2
  | 0, u, v, w, ⟨x, w1, w2, h1, ⟨h2, h3⟩, h4⟩ => by
    subst h2; subst h3
    exact ⟨u, 0, w1, ⟨rfl, rfl⟩, h1, by omega⟩
  | n + 1, u, v, w, ⟨x, w1, w2, h1, h2, h4⟩ => by
    obtain ⟨y, a1, a2, a, b, c⟩ := Wq.last h2
    exact ⟨y, w1 + a1, a2, ⟨x, w1, a1, h1, a, rfl⟩, b, by omega⟩
def mn2 (a b : Nat) : Nat := if b < a then b else a
theorem mn2_l (a b : Nat) : mn2 a b ≤ a ∧ mn2 a b ≤ b ∧ (mn2 a b = a ∨ mn2 a b = b) := by unfold mn2; split <;> omega
def FW (D : Nat → Nat → Nat) (K : Nat) (i j : Nat) : Nat := mn2 (D i j) (D i K + D K j)
def FWn (D : Nat → Nat → Nat) : Nat → Nat → Nat → Nat
  | 0 => D
  | K + 1 => FW (FWn D K) K
/-- a table of least sums -/
def TbG (R : Nat → Nat → Nat → Prop) (D : Nat → Nat → Nat) (K : Nat) : Prop := (∀ i, D i i = 0) ∧ (∀ i j, D i j ≤ 1000000) ∧ (∀ i j w, R i j w → D i j ≤ w) ∧ (∀ i j, D i j < 1000000 → D i j ≤ 18 * 2 ^ K ∧ WQ R i j (D i j)) ∧ ∀ k, k < K → ∀ i j, D i j ≤ D i k + D k j
theorem TbG.step {R : Nat → Nat → Nat → Prop} {D : Nat → Nat → Nat} {K : Nat} (h : TbG R D K) : TbG R (FW D K) (K + 1) := by
  obtain ⟨h1, h2, h3, h4, h5⟩ := h
  have fl := fun i j => mn2_l (D i j) (D i K + D K j)
  have fK : ∀ i, FW D K i K = D i K := fun i => by
    have := fl i K
    have := h1 K
    unfold FW mn2; split <;> omega
  have fK' : ∀ j, FW D K K j = D K j := fun j => by
    have := h1 K
    unfold FW mn2; split <;> omega
  refine ⟨fun i => ?_, fun i j => ?_, fun i j w r => ?_, fun i j hlt => ?_, fun k hk i j => ?_⟩
  · have := (fl i i).1; have := h1 i; show mn2 _ _ = 0; omega
  · have := (fl i j).1; have := h2 i j; show mn2 _ _ ≤ _; omega
  · have := (fl i j).1; have := h3 i j w r; show mn2 _ _ ≤ _; omega
  · have e : 2 ^ (K + 1) = 2 * 2 ^ K := by rw [Nat.pow_succ, Nat.mul_comm]
    rcases (fl i j).2.2 with z | z
    · have hlt : mn2 (D i j) (D i K + D K j) < 1000000 := hlt
      show mn2 (D i j) (D i K + D K j) ≤ _ ∧ WQ R i j (mn2 (D i j) (D i K + D K j))
      rw [z] at hlt ⊢
      obtain ⟨a, b⟩ := h4 i j hlt
      exact ⟨by omega, b⟩
    · have hlt : mn2 (D i j) (D i K + D K j) < 1000000 := hlt
      show mn2 (D i j) (D i K + D K j) ≤ _ ∧ WQ R i j (mn2 (D i j) (D i K + D K j))
      rw [z] at hlt ⊢
      obtain ⟨a, b⟩ := h4 i K (by omega)
      obtain ⟨a', b'⟩ := h4 K j (by omega)
      exact ⟨by omega, b.trans b'⟩
  · have hij := fl i j
    by_cases z : k = K
    · subst z
      rw [fK, fK']
      exact hij.2.1
    · have k1 := fl i k
      have k2 := fl k j
      have t1 := h5 k (by omega) i j
      have t2 := h5 k (by omega) K j
      have t3 := h5 k (by omega) i K
      show mn2 (D i j) (D i K + D K j) ≤ mn2 (D i k) (D i K + D K k) + mn2 (D k j) (D k K + D K j)
      have := k1.2.2
      have := k2.2.2
      omega
theorem TbG.all {R : Nat → Nat → Nat → Prop} {D : Nat → Nat → Nat} (h : TbG R D 0) : ∀ K, TbG R (FWn D K) K
  | 0 => h
  | K + 1 => (TbG.all h K).step
theorem TbG.min {R : Nat → Nat → Nat → Prop} {D : Nat → Nat → Nat} {N : Nat} (h : TbG R D N) (hR : ∀ a b w, R a b w → b < N) : ∀ {n u v w : Nat}, Wq R n u v w → D u v ≤ w
  | 0, u, v, w, ⟨h1, h2⟩ => by subst h1; rw [h.1 u]; omega
  | n + 1, u, v, w, ⟨x, w1, w2, a, b, c⟩ => by
    have := TbG.min h hR b
    have := h.2.2.1 u x w1 a
    have := h.2.2.2.2 x (hR _ _ _ a) u v
    omega
/-- a course leads freely -/
def Rc1 (m : Nat → Int32) (a b w : Nat) : Prop := ∃ v, cIs m v = true ∧ bgn m v = a ∧ enn m v = b ∧ w = lNg m v
def P47 (q : Nat) : Prop := 147 ≤ q ∧ q < 159
def MX (T : hs) (N : Nat) (D : Nat → Nat → Nat) : Prop := ∀ a b, a < N → b < N → gI T (147 + a) b = iN (D a b)
section
variable {k : cx} {S S1 S2 T : hs} {m m' : Nat → Int32} {l : Lz} {E : Nat → Nat → Bool}
theorem pMin2 {a b : Nat} (ha : a < 2147483648) (hb : b < 2147483648) : f_Ma_min S (iN a) (iN b) = some (iN (mn2 a b), S) := by
  unfold f_Ma_min mn2
  by_cases q : b < a
  · rw [if_pos ((iN_lt hb ha).mpr q), if_pos q]
  · rw [if_neg (fun z => q ((iN_lt hb ha).mp z)), if_neg q]
theorem n47 {a : Nat} (h : a < 147 ∨ 158 < a) : ¬ P47 a := fun z => by unfold P47 at z; omega
theorem p47S (f : Fr P47 S T) : Fr Scr S T := f.mono (fun a z => by unfold P47 at z; unfold Scr; omega)
theorem LkF.p47 (h : LkF S m) (f : Fr P47 S T) : LkF T m := h.fr f (fun a h1 h2 => n47 (by omega))
theorem MX.ext {N : Nat} {D D' : Nat → Nat → Nat} (h : MX T N D) (e : ∀ a b, a < N → b < N → D' a b = D a b) : MX T N D' := fun a b ha hb => by rw [h a b ha hb, e a b ha hb]
theorem MX.u {N : Nat} {D : Nat → Nat → Nat} (h : MX T N D) (i j x : Nat) : MX (uI T (147 + i) j (iN x)) N (fun a b => if a = i ∧ b = j then x else D a b) := fun a b ha hb => by
  show _ = iN (if a = i ∧ b = j then x else D a b)
  rw [gI_u]
  by_cases z : a = i ∧ b = j
  · rw [if_pos ⟨by omega, z.2⟩, if_pos z]
  · rw [if_neg (fun y => z ⟨by omega, y.2⟩), if_neg z]; exact h a b ha hb
theorem gb_l (v0 : VM m) {D : Nat → Nat → Nat} (hD : ∀ a b, D a b ≤ 1000000) {i K : Nat} (hi : i < nCr m) (hK : K < nCr m) {via : Nat} (hvia : via ≤ 1000000) : ∀ (r j n : Nat) (T : hs), LkF T m → MX T (nCr m) (fun a b => if a = i ∧ b < j then mn2 (D i b) (via + D K b) else D a b) → j + r = nCr m → r < n → ∃ U, lp_W_goBy_w147_w147_3 i (iN via) K n T (iN j) = some (0, U) ∧ Fr P47 T U ∧ MX U (nCr m) (fun a b => if a = i then mn2 (D i b) (via + D K b) else D a b) := by
  have hcc := v0.c.2
  intro r
  induction r with
  | zero =>
    intro j n T hL hX hj hn
    obtain ⟨n, rfl⟩ : ∃ q, n = q + 1 := ⟨n - 1, by omega⟩
    obtain rfl : j = nCr m := by omega
    refine ⟨T, by rw [lp_W_goBy_w147_w147_3, hL.2.1, if_pos ((iN_le (by omega) (by omega)).mpr (by omega))], Fr.rfl', hX.ext (fun a b ha hb => ?_)⟩
    by_cases z : a = i
    · rw [if_pos z, if_pos ⟨z, hb⟩]
    · rw [if_neg z, if_neg (fun y => z y.1)]
  | succ r ih =>
    intro j n T hL hX hj hn
    obtain ⟨n, rfl⟩ : ∃ q, n = q + 1 := ⟨n - 1, by omega⟩
    have i6 : (1000000 : Int32) = iN 1000000 := rfl
    rw [lp_W_goBy_w147_w147_3, hL.2.1, if_neg (fun z => by have := (iN_le (by omega) (by omega)).mp z; omega), i6]
    by_cases q : 1000000 ≤ via
    · rw [if_pos ((iN_le (by omega) (by omega)).mpr q)]
      refine ⟨T, rfl, Fr.rfl', hX.ext (fun a b ha hb => ?_)⟩
      have e : mn2 (D i b) (via + D K b) = D i b := by have := hD i b; unfold mn2; split <;> omega
      by_cases z : a = i
      · subst z
        rw [if_pos rfl, e]
        split <;> rfl
      · rw [if_neg z, if_neg (fun y => z y.1)]
    · have e1 : gI T (147 + i) j = iN (D i j) := by
        have := hX i j hi (by omega)
        rw [this]
        show iN (if i = i ∧ j < j then _ else D i j) = _
        rw [if_neg (fun y => by omega)]
      have e2 : gI T (147 + K) j = iN (D K j) := by
        have := hX K j hK (by omega)
        rw [this]
        show iN (if K = i ∧ j < j then _ else D K j) = _
        rw [if_neg (fun y => by omega)]
      have d1 := hD i j
      have d2 := hD K j
      rw [if_neg (fun z => q ((iN_le (by omega) (by omega)).mp z)), ck_of (iN_b (by omega) (by decide)), iN_c (by omega), e1, e2, iN_a, pMin2 (by omega) (by omega), bd_s, iN_1]
      have f1 : Fr P47 T (uI T (147 + i) j (iN (mn2 (D i j) (via + D K j)))) := Fr.rfl'.uI (by unfold P47; omega)
      obtain ⟨U, a1, a2, a3⟩ := ih (j + 1) n _ (hL.p47 f1) ((hX.u i j _).ext (fun a b ha hb => by
        by_cases z : a = i
        · subst z
          by_cases z2 : b = j
          · subst z2; rw [if_pos ⟨rfl, by omega⟩, if_pos ⟨rfl, rfl⟩]
          · rw [if_neg (c := a = a ∧ b = j) (fun y => z2 y.2)]
            by_cases z3 : b < j
            · rw [if_pos ⟨rfl, by omega⟩, if_pos ⟨rfl, z3⟩]
            · rw [if_neg (fun y => by omega), if_neg (fun y => z3 y.2)]
        · rw [if_neg (fun y => z y.1), if_neg (fun y => z y.1), if_neg (fun y => z y.1)])) (by omega) (by omega)
      exact ⟨U, a1, f1.trans a2, a3⟩
theorem fw110_l (v0 : VM m) {D : Nat → Nat → Nat} (hD : ∀ a b, D a b ≤ 1000000) {K : Nat} (hK : K < nCr m) (h0 : D K K = 0) {C : hs → Int32 → Option (Int32 × hs)} : ∀ (r i n : Nat) (T : hs), LkF T m → MX T (nCr m) (fun a b => if a < i then FW D K a b else D a b) → i + r = nCr m → r < n → ∃ U, lp_W_measureFreely_110 (iN K) C n T (iN i) = C U (iN (nCr m)) ∧ Fr P47 T U ∧ MX U (nCr m) (FW D K) := by
  have hcc := v0.c.2
  intro r
  induction r with
  | zero =>
    intro i n T hL hX hj hn
    obtain ⟨n, rfl⟩ : ∃ q, n = q + 1 := ⟨n - 1, by omega⟩
    obtain rfl : i = nCr m := by omega
    exact ⟨T, by rw [lp_W_measureFreely_110, hL.2.1, if_pos ((iN_le (by omega) (by omega)).mpr (by omega))], Fr.rfl', hX.ext (fun a b ha hb => by rw [if_pos ha])⟩
  | succ r ih =>
    intro i n T hL hX hj hn
    obtain ⟨n, rfl⟩ : ∃ q, n = q + 1 := ⟨n - 1, by omega⟩
    have fK : ∀ b, FW D K K b = D K b := fun b => by unfold FW mn2; split <;> omega
    have e1 : gI T (147 + i) K = iN (D i K) := by
      rw [hX i K (by omega) hK]
      show iN (if i < i then _ else D i K) = _
      rw [if_neg (by omega)]
    have hb : ∀ a b, (if a < i then FW D K a b else D a b) ≤ 1000000 := fun a b => by
      have := hD a b
      have := (mn2_l (D a b) (D a K + D K b)).1
      split
      · show mn2 _ _ ≤ _; omega
      · omega
    have d1 := hD i K
    obtain ⟨V, b1, b2, b3⟩ := gb_l v0 hb (i := i) (K := K) (by omega) hK d1 (nCr m) 0 1000 T hL (hX.ext (fun a b ha hb => by rw [if_neg (fun y => by omega)])) (by omega) (by omega)
    have b1 : f_W_goBy_w147_w147 T i (iN (D i K)) K = some (0, V) := b1
    rw [lp_W_measureFreely_110, hL.2.1, if_neg (fun z => by have := (iN_le (by omega) (by omega)).mp z; omega), ck_of (iN_b (by omega) (by decide)), ck_of (iN_b (by omega) (by decide)), iN_c (by omega), iN_c (by omega), e1, b1, bd_s, iN_1]
    obtain ⟨U, a1, a2, a3⟩ := ih (i + 1) n V (hL.p47 b2) (b3.ext (fun a b ha hb => by
      by_cases z : a = i
      · subst z
        rw [if_pos (by omega), if_pos rfl, if_neg (c := a < a) (by omega)]
        have : (if K < a then FW D K K b else D K b) = D K b := by rw [fK]; split <;> rfl
        rw [this]; rfl
      · rw [if_neg z]
        by_cases z2 : a < i
        · rw [if_pos z2, if_pos (by omega)]
        · rw [if_neg z2, if_neg (by omega)])) (by omega) (by omega)
    exact ⟨U, a1, b2.trans a2, a3⟩
theorem fw100_l (v0 : VM m) {R : Nat → Nat → Nat → Prop} {D : Nat → Nat → Nat} (hT : TbG R D 0) : ∀ (r K n : Nat) (T : hs), LkF T m → MX T (nCr m) (FWn D K) → K + r = nCr m → r < n → ∃ U, lp_W_measureFreely_100 n T (iN K) = some (0, U) ∧ Fr P47 T U ∧ MX U (nCr m) (FWn D (nCr m)) := by
  have hcc := v0.c.2
  intro r
  induction r with
  | zero =>
    intro K n T hL hX hj hn
    obtain ⟨n, rfl⟩ : ∃ q, n = q + 1 := ⟨n - 1, by omega⟩
    obtain rfl : K = nCr m := by omega
    exact ⟨T, by rw [lp_W_measureFreely_100, hL.2.1, if_pos ((iN_le (by omega) (by omega)).mpr (by omega))], Fr.rfl', hX⟩
  | succ r ih =>
    intro K n T hL hX hj hn
    obtain ⟨n, rfl⟩ : ∃ q, n = q + 1 := ⟨n - 1, by omega⟩
    have hK := hT.all K
    obtain ⟨V, b1, b2, b3⟩ := fw110_l v0 hK.2.1 (K := K) (by omega) (hK.1 K) (C := fun (S28 : hs) (y29 : Int32) => lp_W_measureFreely_100 n S28 (iN K + (1 : Int32))) (nCr m) 0 1000 T hL (hX.ext (fun a b ha hb => by rw [if_neg (by omega)])) (by omega) (by omega)
    obtain ⟨U, a1, a2, a3⟩ := ih (K + 1) n V (hL.p47 b2) b3 (by omega) (by omega)
    rw [lp_W_measureFreely_100, hL.2.1, if_neg (fun z => by have := (iN_le (by omega) (by omega)).mp z; omega)]
    refine ⟨U, Eq.trans b1 ?_, b2.trans a2, a3⟩
    show lp_W_measureFreely_100 n V (iN K + (1 : Int32)) = _
    rw [iN_1]; exact a1
end
