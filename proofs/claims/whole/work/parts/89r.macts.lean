/-! The model's acts. -/
def pu (S : hs) (a i b : Nat) (x : Int32) : hs := if (30 : Int32) ≤ gI S a i then S else uI (uI S b (gI S a i).toNatClampNeg x) a i (gI S a i + (1 : Int32))
def pus (S : hs) (a i b : Nat) (l : List Int32) : hs := l.foldl (fun S x => pu S a i b x) S
theorem bgs_pus {S : hs} {t : Nat} {l : List Int32} : bgs S t l = pus S t 3 (t + 1) l := rfl
section
variable {S T : hs} {a i b c j : Nat} {x : Int32}
theorem pu_o (h1 : ¬ (c = a ∧ j = i)) (h2 : c ≠ b) : gI (pu S a i b x) c j = gI S c j := by
  unfold pu
  split
  · rfl
  · rw [gI_u, if_neg h1, gI_ua h2]
theorem pu_J : gJ (pu S a i b x) c j = gJ S c j := by
  unfold pu
  split <;> rfl
theorem pus_o (h1 : ¬ (c = a ∧ j = i)) (h2 : c ≠ b) : ∀ (l : List Int32) (S : hs), gI (pus S a i b l) c j = gI S c j
  | [], _ => rfl
  | x :: l, S => (pus_o h1 h2 l (pu S a i b x)).trans (pu_o h1 h2)
theorem pus_J : ∀ (l : List Int32) (S : hs), gJ (pus S a i b l) c j = gJ S c j
  | [], _ => rfl
  | x :: l, S => (pus_J l (pu S a i b x)).trans pu_J
theorem pu_e {n : Nat} (h : gI S a i = iN n) (hn : n < 30) : pu S a i b x = uI (uI S b n x) a i (iN (n + 1)) := by
  unfold pu
  rw [h, if_neg (fun z => by have := (iN_le (a := 30) (by omega) (by omega)).mp z; omega), iN_c (by omega), iN_1]
theorem pus_n (hab : a ≠ b) : ∀ (l : List Int32) (S : hs) (n : Nat), n + l.length ≤ 30 → gI S a i = iN n → gI (pus S a i b l) a i = iN (n + l.length) ∧ (∀ j, j < n → gI (pus S a i b l) b j = gI S b j) ∧ ∀ j, j < l.length → gI (pus S a i b l) b (n + j) = l.getD j 0
  | [], S, n, _, h => ⟨h, fun _ _ => rfl, fun j hj => absurd hj (Nat.not_lt_zero j)⟩
  | x :: l, S, n, hn, h => by
    have hn' : n + (l.length + 1) ≤ 30 := hn
    have e : pus S a i b (x :: l) = pus (pu S a i b x) a i b l := rfl
    have e1 := pu_e (b := b) (x := x) h (by omega)
    have h1 : gI (pu S a i b x) a i = iN (n + 1) := by rw [e1, gI_us]
    obtain ⟨k1, k2, k3⟩ := pus_n hab l (pu S a i b x) (n + 1) (by omega) h1
    have e2 : ∀ j, gI (pu S a i b x) b j = if j = n then x else gI S b j := fun j => by
      rw [e1, gI_ua (Ne.symm hab), gI_u]
      by_cases z : j = n
      · rw [if_pos ⟨rfl, z⟩, if_pos z]
      · rw [if_neg (fun q => z q.2), if_neg z]
    rw [e]
    refine ⟨by rw [k1]; show iN (n + 1 + l.length) = iN (n + (l.length + 1)); congr 1; omega, fun j hj => ?_, fun j hj => ?_⟩
    · rw [k2 j (by omega), e2, if_neg (by omega)]
    · cases j with
      | zero => rw [Nat.add_zero, k2 n (by omega), e2, if_pos rfl]; rfl
      | succ j =>
        have hj : j < l.length := Nat.lt_of_succ_lt_succ hj
        have := k3 j hj
        rw [show n + 1 + j = n + (j + 1) by omega] at this
        rw [this]; rfl
theorem pm1 : pu S a i b x = pus S a i b [x] := rfl
theorem pus_app {l1 l2 : List Int32} : pus (pus S a i b l1) a i b l2 = pus S a i b (l1 ++ l2) := List.foldl_append.symm
theorem pmE {v v' : Int32} {l l' : List Int32} (h1 : v = v') (h2 : l = l') : some (v, pus S a i b l) = some (v', pus S a i b l') := by rw [h1, h2]
theorem uI_same {v : Int32} (h : gI S a i = v) : uI S a i v = S := by
  have e : up2 S.1 a i v = S.1 := by
    funext b j
    unfold up2
    split
    · rename_i h1
      split
      · rename_i h2
        rw [h1, h2]; exact h.symm
      · rfl
    · rfl
  show (up2 S.1 a i v, S.2) = S
  rw [e]
theorem bd_id {o : Option (Int32 × hs)} : (bd o fun r S => some (r, S)) = o := by cases o <;> rfl
end
def Ac (T : hs) (m : Nat → Int32) (kd : Nat) (n a : Int32) : Prop := Tn T m ∧ gI T 191 34 = 0 ∧ gI T 191 32 = n ∧ gI T 191 33 = a ∧ tkd m n a = kd ∧ ∃ c : Nat, c ≤ 30 ∧ gI T 191 31 = iN c
abbrev pm (T : hs) (x : Int32) : hs := pu T 191 31 212 x
abbrev pms (T : hs) (l : List Int32) : hs := pus T 191 31 212 l
section
variable {T : hs} {m : Nat → Int32} {kd : Nat} {n a x y : Int32} {bf : hs → Int32 → Int32 → Int32 → Option (Int32 × hs)}
theorem pm_fr {x : Int32} : Fr (fun a => a = 191 ∨ a = 212) T (pm T x) := fun c h => ⟨fun j => pu_o (fun q => h (Or.inl q.1)) (fun q => h (Or.inr q)), fun j => pu_J⟩
theorem Ac.p {x : Int32} (h : Ac T m kd n a) : Ac (pm T x) m kd n a := by
  obtain ⟨h1, h2, h3, h4, h5, c, h6, h7⟩ := h
  refine ⟨h1.fr pm_fr (by omega), (pu_o (by omega) (by omega)).trans h2, (pu_o (by omega) (by omega)).trans h3, (pu_o (by omega) (by omega)).trans h4, h5, ?_⟩
  by_cases q : c < 30
  · exact ⟨c + 1, by omega, by show gI (pu T 191 31 212 x) 191 31 = _; rw [pu_e h7 q, gI_us]⟩
  · refine ⟨c, h6, ?_⟩
    show gI (pu T 191 31 212 x) 191 31 = _
    unfold pu
    rw [if_pos (by rw [h7]; exact (iN_le (a := 30) (by omega) (by omega)).mpr (by omega))]
    exact h7
theorem Ac.ps : ∀ (l : List Int32) {T : hs}, Ac T m kd n a → Ac (pms T l) m kd n a
  | [], _, h => h
  | _ :: l, _, h => Ac.ps l h.p
theorem mbg (h : Ac T m kd n a) : f_M_began T x = some (0, pm T x) := by
  obtain ⟨h1, h2, h3, h4, h5, c, h6, h7⟩ := h
  unfold f_M_began
  show _ = some ((0 : Int32), pu T 191 31 212 x)
  by_cases q : c < 30
  · rw [pu_e h7 q, h7, if_neg (fun z => by have := (iN_le (a := 30) (by omega) (by omega)).mp z; omega), ck_of (iN_b q (by decide)), iN_c (by omega), gI_ua (by decide), h7, iN_1]
  · have : (30 : Int32) ≤ gI T 191 31 := by rw [h7]; exact (iN_le (a := 30) (by omega) (by omega)).mpr (by omega)
    unfold pu
    rw [if_pos this, if_pos this]
theorem mvo (h : Ac T m kd n a) {K : Int32} (e : iN kd = K) : f_M_voiced bf T y x = bf T K y x := by
  obtain ⟨h1, h2, h3, h4, h5, -⟩ := h
  unfold f_M_voiced
  rw [h3, h4, pM_kindOf h1, bd_s, h5, e, bd_id]
theorem sub_ne {a n : Int32} (h : a ≠ n) : ¬ (a - n = 0) := fun z => h (by
  have e := congrArg (fun q => q + n) z
  simp only [Int32.sub_add_cancel, Int32.zero_add] at e
  exact e)
theorem bF_own {z : Nat} {K : hs → Int32 → Option (Int32 × hs)} {u : Int32} (h : f_M_hasOwn T u y = some (1, T)) : lp_M_bodyFrom_3 y x bf K (z + 1) T u = K T u := by rw [lp_M_bodyFrom_3, h, bd_s, if_neg (by decide)]
theorem bF_up {z : Nat} {K : hs → Int32 → Option (Int32 × hs)} {u u' : Int32} (h : f_M_hasOwn T u y = some (0, T)) (h2 : f_M_above T u = some (u', T)) : lp_M_bodyFrom_3 y x bf K (z + 1) T u = lp_M_bodyFrom_3 y x bf K z T u' := by rw [lp_M_bodyFrom_3, h, bd_s, if_pos rfl, h2, bd_s]
theorem hO_0_0 : f_M_hasOwn T (0 : Int32) (0 : Int32) = some (1, T) := by
  unfold f_M_hasOwn
  rw [if_pos (by decide)]
theorem hO_0_1 : f_M_hasOwn T (0 : Int32) (1 : Int32) = some (1, T) := by
  unfold f_M_hasOwn
  rw [if_pos (by decide)]
theorem hO_0_2 : f_M_hasOwn T (0 : Int32) (2 : Int32) = some (1, T) := by
  unfold f_M_hasOwn
  rw [if_pos (by decide)]
theorem hO_0_3 : f_M_hasOwn T (0 : Int32) (3 : Int32) = some (1, T) := by
  unfold f_M_hasOwn
  rw [if_pos (by decide)]
theorem hO_1_0 : f_M_hasOwn T (1 : Int32) (0 : Int32) = some (1, T) := by
  unfold f_M_hasOwn
  rw [if_neg (by decide), if_pos (by decide), if_pos (by decide)]
theorem hO_1_1 : f_M_hasOwn T (1 : Int32) (1 : Int32) = some (0, T) := by
  unfold f_M_hasOwn
  rw [if_neg (by decide), if_pos (by decide), if_neg (by decide)]
theorem hO_1_2 : f_M_hasOwn T (1 : Int32) (2 : Int32) = some (0, T) := by
  unfold f_M_hasOwn
  rw [if_neg (by decide), if_pos (by decide), if_neg (by decide)]
theorem hO_1_3 : f_M_hasOwn T (1 : Int32) (3 : Int32) = some (0, T) := by
  unfold f_M_hasOwn
  rw [if_neg (by decide), if_pos (by decide), if_neg (by decide)]
theorem hO_2_0 : f_M_hasOwn T (2 : Int32) (0 : Int32) = some (0, T) := by
  unfold f_M_hasOwn
  rw [if_neg (by decide), if_neg (by decide), if_pos (by decide), if_neg (by decide)]
theorem hO_2_1 : f_M_hasOwn T (2 : Int32) (1 : Int32) = some (1, T) := by
  unfold f_M_hasOwn
  rw [if_neg (by decide), if_neg (by decide), if_pos (by decide), if_pos (by decide)]
theorem hO_2_2 : f_M_hasOwn T (2 : Int32) (2 : Int32) = some (0, T) := by
  unfold f_M_hasOwn
  rw [if_neg (by decide), if_neg (by decide), if_pos (by decide), if_neg (by decide)]
theorem hO_2_3 : f_M_hasOwn T (2 : Int32) (3 : Int32) = some (0, T) := by
  unfold f_M_hasOwn
  rw [if_neg (by decide), if_neg (by decide), if_pos (by decide), if_neg (by decide)]
theorem hO_3_0 : f_M_hasOwn T (3 : Int32) (0 : Int32) = some (1, T) := by
  unfold f_M_hasOwn
  rw [if_neg (by decide), if_neg (by decide), if_neg (by decide), if_pos (by decide), if_pos (by decide)]
theorem hO_3_1 : f_M_hasOwn T (3 : Int32) (1 : Int32) = some (0, T) := by
  unfold f_M_hasOwn
  rw [if_neg (by decide), if_neg (by decide), if_neg (by decide), if_pos (by decide), if_neg (by decide), if_neg (by decide)]
theorem hO_3_2 : f_M_hasOwn T (3 : Int32) (2 : Int32) = some (0, T) := by
  unfold f_M_hasOwn
  rw [if_neg (by decide), if_neg (by decide), if_neg (by decide), if_pos (by decide), if_neg (by decide), if_neg (by decide)]
theorem hO_3_3 : f_M_hasOwn T (3 : Int32) (3 : Int32) = some (1, T) := by
  unfold f_M_hasOwn
  rw [if_neg (by decide), if_neg (by decide), if_neg (by decide), if_pos (by decide), if_neg (by decide), if_pos (by decide)]
theorem hO_4_0 : f_M_hasOwn T (4 : Int32) (0 : Int32) = some (0, T) := by
  unfold f_M_hasOwn
  rw [if_neg (by decide), if_neg (by decide), if_neg (by decide), if_neg (by decide), if_pos (by decide), if_neg (by decide)]
theorem hO_4_1 : f_M_hasOwn T (4 : Int32) (1 : Int32) = some (0, T) := by
  unfold f_M_hasOwn
  rw [if_neg (by decide), if_neg (by decide), if_neg (by decide), if_neg (by decide), if_pos (by decide), if_neg (by decide)]
theorem hO_4_2 : f_M_hasOwn T (4 : Int32) (2 : Int32) = some (1, T) := by
  unfold f_M_hasOwn
  rw [if_neg (by decide), if_neg (by decide), if_neg (by decide), if_neg (by decide), if_pos (by decide), if_pos (by decide)]
theorem hO_4_3 : f_M_hasOwn T (4 : Int32) (3 : Int32) = some (0, T) := by
  unfold f_M_hasOwn
  rw [if_neg (by decide), if_neg (by decide), if_neg (by decide), if_neg (by decide), if_pos (by decide), if_neg (by decide)]
theorem hO_5_0 : f_M_hasOwn T (5 : Int32) (0 : Int32) = some (0, T) := by
  unfold f_M_hasOwn
  rw [if_neg (by decide), if_neg (by decide), if_neg (by decide), if_neg (by decide), if_neg (by decide), if_neg (by decide), if_neg (by decide)]
theorem hO_5_1 : f_M_hasOwn T (5 : Int32) (1 : Int32) = some (1, T) := by
  unfold f_M_hasOwn
  rw [if_neg (by decide), if_neg (by decide), if_neg (by decide), if_neg (by decide), if_neg (by decide), if_pos (by decide)]
theorem hO_5_2 : f_M_hasOwn T (5 : Int32) (2 : Int32) = some (1, T) := by
  unfold f_M_hasOwn
  rw [if_neg (by decide), if_neg (by decide), if_neg (by decide), if_neg (by decide), if_neg (by decide), if_neg (by decide), if_pos (by decide)]
theorem hO_5_3 : f_M_hasOwn T (5 : Int32) (3 : Int32) = some (0, T) := by
  unfold f_M_hasOwn
  rw [if_neg (by decide), if_neg (by decide), if_neg (by decide), if_neg (by decide), if_neg (by decide), if_neg (by decide), if_neg (by decide)]
theorem ab_1 : f_M_above T (1 : Int32) = some ((0 : Int32), T) := by
  unfold f_M_above
  rw [if_neg (by decide), if_neg (by decide), if_neg (by decide)]
theorem ab_2 : f_M_above T (2 : Int32) = some ((0 : Int32), T) := by
  unfold f_M_above
  rw [if_neg (by decide), if_neg (by decide), if_neg (by decide)]
theorem ab_3 : f_M_above T (3 : Int32) = some ((2 : Int32), T) := by
  unfold f_M_above
  rw [if_neg (by decide), if_pos (by decide)]
theorem ab_4 : f_M_above T (4 : Int32) = some ((0 : Int32), T) := by
  unfold f_M_above
  rw [if_neg (by decide), if_neg (by decide), if_neg (by decide)]
theorem ab_5 : f_M_above T (5 : Int32) = some ((4 : Int32), T) := by
  unfold f_M_above
  rw [if_neg (by decide), if_neg (by decide), if_pos (by decide)]
theorem bo_0_0 (h : gI T 191 34 = 0) : f_M_bodyFrom bf T (0 : Int32) (0 : Int32) x = f_M_body bf T (0 : Int32) (0 : Int32) x := by
  unfold f_M_bodyFrom
  refine (bF_own (z := 999) hO_0_0).trans ?_
  show (if gI T 191 34 = 0 then bd (f_M_body bf T (0 : Int32) (0 : Int32) x) fun r11 S12 => some (r11, S12) else some ((0 : Int32), T)) = _
  rw [if_pos h, bd_id]
theorem bo_0_1 (h : gI T 191 34 = 0) : f_M_bodyFrom bf T (0 : Int32) (1 : Int32) x = f_M_body bf T (0 : Int32) (1 : Int32) x := by
  unfold f_M_bodyFrom
  refine (bF_own (z := 999) hO_0_1).trans ?_
  show (if gI T 191 34 = 0 then bd (f_M_body bf T (0 : Int32) (1 : Int32) x) fun r11 S12 => some (r11, S12) else some ((0 : Int32), T)) = _
  rw [if_pos h, bd_id]
theorem bo_0_2 (h : gI T 191 34 = 0) : f_M_bodyFrom bf T (0 : Int32) (2 : Int32) x = f_M_body bf T (0 : Int32) (2 : Int32) x := by
  unfold f_M_bodyFrom
  refine (bF_own (z := 999) hO_0_2).trans ?_
  show (if gI T 191 34 = 0 then bd (f_M_body bf T (0 : Int32) (2 : Int32) x) fun r11 S12 => some (r11, S12) else some ((0 : Int32), T)) = _
  rw [if_pos h, bd_id]
theorem bo_0_3 (h : gI T 191 34 = 0) : f_M_bodyFrom bf T (0 : Int32) (3 : Int32) x = f_M_body bf T (0 : Int32) (3 : Int32) x := by
  unfold f_M_bodyFrom
  refine (bF_own (z := 999) hO_0_3).trans ?_
  show (if gI T 191 34 = 0 then bd (f_M_body bf T (0 : Int32) (3 : Int32) x) fun r11 S12 => some (r11, S12) else some ((0 : Int32), T)) = _
  rw [if_pos h, bd_id]
theorem bo_1_0 (h : gI T 191 34 = 0) : f_M_bodyFrom bf T (1 : Int32) (0 : Int32) x = f_M_body bf T (1 : Int32) (0 : Int32) x := by
  unfold f_M_bodyFrom
  refine (bF_own (z := 999) hO_1_0).trans ?_
  show (if gI T 191 34 = 0 then bd (f_M_body bf T (1 : Int32) (0 : Int32) x) fun r11 S12 => some (r11, S12) else some ((0 : Int32), T)) = _
  rw [if_pos h, bd_id]
theorem bo_1_1 (h : gI T 191 34 = 0) : f_M_bodyFrom bf T (1 : Int32) (1 : Int32) x = f_M_body bf T (0 : Int32) (1 : Int32) x := by
  unfold f_M_bodyFrom
  refine ((bF_up (z := 999) hO_1_1 ab_1).trans (bF_own (z := 998) hO_0_1)).trans ?_
  show (if gI T 191 34 = 0 then bd (f_M_body bf T (0 : Int32) (1 : Int32) x) fun r11 S12 => some (r11, S12) else some ((0 : Int32), T)) = _
  rw [if_pos h, bd_id]
theorem bo_1_2 (h : gI T 191 34 = 0) : f_M_bodyFrom bf T (1 : Int32) (2 : Int32) x = f_M_body bf T (0 : Int32) (2 : Int32) x := by
  unfold f_M_bodyFrom
  refine ((bF_up (z := 999) hO_1_2 ab_1).trans (bF_own (z := 998) hO_0_2)).trans ?_
  show (if gI T 191 34 = 0 then bd (f_M_body bf T (0 : Int32) (2 : Int32) x) fun r11 S12 => some (r11, S12) else some ((0 : Int32), T)) = _
  rw [if_pos h, bd_id]
theorem bo_1_3 (h : gI T 191 34 = 0) : f_M_bodyFrom bf T (1 : Int32) (3 : Int32) x = f_M_body bf T (0 : Int32) (3 : Int32) x := by
  unfold f_M_bodyFrom
  refine ((bF_up (z := 999) hO_1_3 ab_1).trans (bF_own (z := 998) hO_0_3)).trans ?_
  show (if gI T 191 34 = 0 then bd (f_M_body bf T (0 : Int32) (3 : Int32) x) fun r11 S12 => some (r11, S12) else some ((0 : Int32), T)) = _
  rw [if_pos h, bd_id]
theorem bo_2_0 (h : gI T 191 34 = 0) : f_M_bodyFrom bf T (2 : Int32) (0 : Int32) x = f_M_body bf T (0 : Int32) (0 : Int32) x := by
  unfold f_M_bodyFrom
  refine ((bF_up (z := 999) hO_2_0 ab_2).trans (bF_own (z := 998) hO_0_0)).trans ?_
  show (if gI T 191 34 = 0 then bd (f_M_body bf T (0 : Int32) (0 : Int32) x) fun r11 S12 => some (r11, S12) else some ((0 : Int32), T)) = _
  rw [if_pos h, bd_id]
theorem bo_2_1 (h : gI T 191 34 = 0) : f_M_bodyFrom bf T (2 : Int32) (1 : Int32) x = f_M_body bf T (2 : Int32) (1 : Int32) x := by
  unfold f_M_bodyFrom
  refine (bF_own (z := 999) hO_2_1).trans ?_
  show (if gI T 191 34 = 0 then bd (f_M_body bf T (2 : Int32) (1 : Int32) x) fun r11 S12 => some (r11, S12) else some ((0 : Int32), T)) = _
  rw [if_pos h, bd_id]
theorem bo_2_2 (h : gI T 191 34 = 0) : f_M_bodyFrom bf T (2 : Int32) (2 : Int32) x = f_M_body bf T (0 : Int32) (2 : Int32) x := by
  unfold f_M_bodyFrom
  refine ((bF_up (z := 999) hO_2_2 ab_2).trans (bF_own (z := 998) hO_0_2)).trans ?_
  show (if gI T 191 34 = 0 then bd (f_M_body bf T (0 : Int32) (2 : Int32) x) fun r11 S12 => some (r11, S12) else some ((0 : Int32), T)) = _
  rw [if_pos h, bd_id]
theorem bo_2_3 (h : gI T 191 34 = 0) : f_M_bodyFrom bf T (2 : Int32) (3 : Int32) x = f_M_body bf T (0 : Int32) (3 : Int32) x := by
  unfold f_M_bodyFrom
  refine ((bF_up (z := 999) hO_2_3 ab_2).trans (bF_own (z := 998) hO_0_3)).trans ?_
  show (if gI T 191 34 = 0 then bd (f_M_body bf T (0 : Int32) (3 : Int32) x) fun r11 S12 => some (r11, S12) else some ((0 : Int32), T)) = _
  rw [if_pos h, bd_id]
theorem bo_3_0 (h : gI T 191 34 = 0) : f_M_bodyFrom bf T (3 : Int32) (0 : Int32) x = f_M_body bf T (3 : Int32) (0 : Int32) x := by
  unfold f_M_bodyFrom
  refine (bF_own (z := 999) hO_3_0).trans ?_
  show (if gI T 191 34 = 0 then bd (f_M_body bf T (3 : Int32) (0 : Int32) x) fun r11 S12 => some (r11, S12) else some ((0 : Int32), T)) = _
  rw [if_pos h, bd_id]
theorem bo_3_1 (h : gI T 191 34 = 0) : f_M_bodyFrom bf T (3 : Int32) (1 : Int32) x = f_M_body bf T (2 : Int32) (1 : Int32) x := by
  unfold f_M_bodyFrom
  refine ((bF_up (z := 999) hO_3_1 ab_3).trans (bF_own (z := 998) hO_2_1)).trans ?_
  show (if gI T 191 34 = 0 then bd (f_M_body bf T (2 : Int32) (1 : Int32) x) fun r11 S12 => some (r11, S12) else some ((0 : Int32), T)) = _
  rw [if_pos h, bd_id]
theorem bo_3_2 (h : gI T 191 34 = 0) : f_M_bodyFrom bf T (3 : Int32) (2 : Int32) x = f_M_body bf T (0 : Int32) (2 : Int32) x := by
  unfold f_M_bodyFrom
  refine ((bF_up (z := 999) hO_3_2 ab_3).trans ((bF_up (z := 998) hO_2_2 ab_2).trans (bF_own (z := 997) hO_0_2))).trans ?_
  show (if gI T 191 34 = 0 then bd (f_M_body bf T (0 : Int32) (2 : Int32) x) fun r11 S12 => some (r11, S12) else some ((0 : Int32), T)) = _
  rw [if_pos h, bd_id]
theorem bo_3_3 (h : gI T 191 34 = 0) : f_M_bodyFrom bf T (3 : Int32) (3 : Int32) x = f_M_body bf T (3 : Int32) (3 : Int32) x := by
  unfold f_M_bodyFrom
  refine (bF_own (z := 999) hO_3_3).trans ?_
  show (if gI T 191 34 = 0 then bd (f_M_body bf T (3 : Int32) (3 : Int32) x) fun r11 S12 => some (r11, S12) else some ((0 : Int32), T)) = _
  rw [if_pos h, bd_id]
theorem bo_4_0 (h : gI T 191 34 = 0) : f_M_bodyFrom bf T (4 : Int32) (0 : Int32) x = f_M_body bf T (0 : Int32) (0 : Int32) x := by
  unfold f_M_bodyFrom
  refine ((bF_up (z := 999) hO_4_0 ab_4).trans (bF_own (z := 998) hO_0_0)).trans ?_
  show (if gI T 191 34 = 0 then bd (f_M_body bf T (0 : Int32) (0 : Int32) x) fun r11 S12 => some (r11, S12) else some ((0 : Int32), T)) = _
  rw [if_pos h, bd_id]
theorem bo_4_1 (h : gI T 191 34 = 0) : f_M_bodyFrom bf T (4 : Int32) (1 : Int32) x = f_M_body bf T (0 : Int32) (1 : Int32) x := by
  unfold f_M_bodyFrom
  refine ((bF_up (z := 999) hO_4_1 ab_4).trans (bF_own (z := 998) hO_0_1)).trans ?_
  show (if gI T 191 34 = 0 then bd (f_M_body bf T (0 : Int32) (1 : Int32) x) fun r11 S12 => some (r11, S12) else some ((0 : Int32), T)) = _
  rw [if_pos h, bd_id]
theorem bo_4_2 (h : gI T 191 34 = 0) : f_M_bodyFrom bf T (4 : Int32) (2 : Int32) x = f_M_body bf T (4 : Int32) (2 : Int32) x := by
  unfold f_M_bodyFrom
  refine (bF_own (z := 999) hO_4_2).trans ?_
  show (if gI T 191 34 = 0 then bd (f_M_body bf T (4 : Int32) (2 : Int32) x) fun r11 S12 => some (r11, S12) else some ((0 : Int32), T)) = _
  rw [if_pos h, bd_id]
theorem bo_4_3 (h : gI T 191 34 = 0) : f_M_bodyFrom bf T (4 : Int32) (3 : Int32) x = f_M_body bf T (0 : Int32) (3 : Int32) x := by
  unfold f_M_bodyFrom
  refine ((bF_up (z := 999) hO_4_3 ab_4).trans (bF_own (z := 998) hO_0_3)).trans ?_
  show (if gI T 191 34 = 0 then bd (f_M_body bf T (0 : Int32) (3 : Int32) x) fun r11 S12 => some (r11, S12) else some ((0 : Int32), T)) = _
  rw [if_pos h, bd_id]
theorem bo_5_0 (h : gI T 191 34 = 0) : f_M_bodyFrom bf T (5 : Int32) (0 : Int32) x = f_M_body bf T (0 : Int32) (0 : Int32) x := by
  unfold f_M_bodyFrom
  refine ((bF_up (z := 999) hO_5_0 ab_5).trans ((bF_up (z := 998) hO_4_0 ab_4).trans (bF_own (z := 997) hO_0_0))).trans ?_
  show (if gI T 191 34 = 0 then bd (f_M_body bf T (0 : Int32) (0 : Int32) x) fun r11 S12 => some (r11, S12) else some ((0 : Int32), T)) = _
  rw [if_pos h, bd_id]
theorem bo_5_1 (h : gI T 191 34 = 0) : f_M_bodyFrom bf T (5 : Int32) (1 : Int32) x = f_M_body bf T (5 : Int32) (1 : Int32) x := by
  unfold f_M_bodyFrom
  refine (bF_own (z := 999) hO_5_1).trans ?_
  show (if gI T 191 34 = 0 then bd (f_M_body bf T (5 : Int32) (1 : Int32) x) fun r11 S12 => some (r11, S12) else some ((0 : Int32), T)) = _
  rw [if_pos h, bd_id]
theorem bo_5_2 (h : gI T 191 34 = 0) : f_M_bodyFrom bf T (5 : Int32) (2 : Int32) x = f_M_body bf T (5 : Int32) (2 : Int32) x := by
  unfold f_M_bodyFrom
  refine (bF_own (z := 999) hO_5_2).trans ?_
  show (if gI T 191 34 = 0 then bd (f_M_body bf T (5 : Int32) (2 : Int32) x) fun r11 S12 => some (r11, S12) else some ((0 : Int32), T)) = _
  rw [if_pos h, bd_id]
theorem bo_5_3 (h : gI T 191 34 = 0) : f_M_bodyFrom bf T (5 : Int32) (3 : Int32) x = f_M_body bf T (0 : Int32) (3 : Int32) x := by
  unfold f_M_bodyFrom
  refine ((bF_up (z := 999) hO_5_3 ab_5).trans ((bF_up (z := 998) hO_4_3 ab_4).trans (bF_own (z := 997) hO_0_3))).trans ?_
  show (if gI T 191 34 = 0 then bd (f_M_body bf T (0 : Int32) (3 : Int32) x) fun r11 S12 => some (r11, S12) else some ((0 : Int32), T)) = _
  rw [if_pos h, bd_id]
theorem by_0_0 : f_M_body bf T (0 : Int32) (0 : Int32) x = bd (f_M_began T (10 : Int32)) fun _ S3 => some (x + gI T 191 33, S3) := by
  unfold f_M_body
  rw [if_pos (by decide)]
theorem by_0_1 : f_M_body bf T (0 : Int32) (1 : Int32) x = bd (f_M_began T (11 : Int32)) fun _ S7 => bd (f_M_voiced bf S7 (0 : Int32) x) fun r9 S10 => some (r9 * (2 : Int32), S10) := by
  unfold f_M_body
  rw [if_neg (by decide), if_pos (by decide)]
theorem by_0_3 : f_M_body bf T (0 : Int32) (3 : Int32) x = bd (f_M_began T (13 : Int32)) fun _ S23 => bd (f_M_voiced bf S23 (1 : Int32) x) fun r25 S26 => some (r25 ^^^ gI T 191 32, S26) := by
  unfold f_M_body
  rw [if_neg (by decide), if_neg (by decide), if_neg (by decide), if_pos (by decide)]
theorem by_1_0 : f_M_body bf T (1 : Int32) (0 : Int32) x = bd (f_M_began T (20 : Int32)) fun _ S30 => bd (bf S30 (0 : Int32) (0 : Int32) x) fun r32 S33 => some (r32 * (3 : Int32), S33) := by
  unfold f_M_body
  rw [if_neg (by decide), if_neg (by decide), if_neg (by decide), if_neg (by decide), if_pos (by decide)]
theorem by_2_1 : f_M_body bf T (2 : Int32) (1 : Int32) x = bd (f_M_began T (30 : Int32)) fun _ S77 => bd (bf S77 (0 : Int32) (1 : Int32) x) fun r79 S80 => some (r79 - gI T 191 33, S80) := by
  unfold f_M_body
  rw [if_neg (by decide), if_neg (by decide), if_neg (by decide), if_neg (by decide), if_neg (by decide), if_neg (by decide), if_neg (by decide), if_neg (by decide), if_neg (by decide), if_pos (by decide)]
theorem by_3_0 : f_M_body bf T (3 : Int32) (0 : Int32) x = bd (f_M_began T (50 : Int32)) fun _ S104 => bd (bf S104 (2 : Int32) (0 : Int32) x) fun r106 S107 => some (r106 ^^^ gI T 191 32, S107) := by
  unfold f_M_body
  rw [if_neg (by decide), if_neg (by decide), if_neg (by decide), if_neg (by decide), if_neg (by decide), if_neg (by decide), if_neg (by decide), if_neg (by decide), if_neg (by decide), if_neg (by decide), if_neg (by decide), if_neg (by decide), if_pos (by decide)]
theorem by_3_3 : f_M_body bf T (3 : Int32) (3 : Int32) x = bd (f_M_began T (51 : Int32)) fun _ S131 => bd (bf S131 (2 : Int32) (3 : Int32) x) fun r133 S134 => bd (f_M_voiced bf S134 (2 : Int32) (gI T 191 32)) fun r136 S137 => some (r133 + r136, S137) := by
  unfold f_M_body
  rw [if_neg (by decide), if_neg (by decide), if_neg (by decide), if_neg (by decide), if_neg (by decide), if_neg (by decide), if_neg (by decide), if_neg (by decide), if_neg (by decide), if_neg (by decide), if_neg (by decide), if_neg (by decide), if_neg (by decide), if_neg (by decide), if_neg (by decide), if_pos (by decide)]
theorem by_4_2 : f_M_body bf T (4 : Int32) (2 : Int32) x = bd (f_M_began T (40 : Int32)) fun _ S161 => bd (bf S161 (0 : Int32) (2 : Int32) (x + (1 : Int32))) fun r163 S164 => some (r163, S164) := by
  unfold f_M_body
  rw [if_neg (by decide), if_neg (by decide), if_neg (by decide), if_neg (by decide), if_neg (by decide), if_neg (by decide), if_neg (by decide), if_neg (by decide), if_neg (by decide), if_neg (by decide), if_neg (by decide), if_neg (by decide), if_neg (by decide), if_neg (by decide), if_neg (by decide), if_neg (by decide), if_neg (by decide), if_neg (by decide), if_pos (by decide)]
theorem by_5_1 : f_M_body bf T (5 : Int32) (1 : Int32) x = bd (f_M_began T (60 : Int32)) fun _ S188 => bd (bf S188 (4 : Int32) (1 : Int32) x) fun r190 S191 => some (-r190, S191) := by
  unfold f_M_body
  rw [if_neg (by decide), if_neg (by decide), if_neg (by decide), if_neg (by decide), if_neg (by decide), if_neg (by decide), if_neg (by decide), if_neg (by decide), if_neg (by decide), if_neg (by decide), if_neg (by decide), if_neg (by decide), if_neg (by decide), if_neg (by decide), if_neg (by decide), if_neg (by decide), if_neg (by decide), if_neg (by decide), if_neg (by decide), if_neg (by decide), if_neg (by decide), if_pos (by decide)]
theorem by_5_2 : f_M_body bf T (5 : Int32) (2 : Int32) x = bd (f_M_began T (61 : Int32)) fun _ S194 => bd (bf S194 (4 : Int32) (2 : Int32) x) fun r196 S197 => bd (f_M_voiced bf S197 (0 : Int32) (gI T 191 32)) fun r199 S200 => some (r196 + r199, S200) := by
  unfold f_M_body
  rw [if_neg (by decide), if_neg (by decide), if_neg (by decide), if_neg (by decide), if_neg (by decide), if_neg (by decide), if_neg (by decide), if_neg (by decide), if_neg (by decide), if_neg (by decide), if_neg (by decide), if_neg (by decide), if_neg (by decide), if_neg (by decide), if_neg (by decide), if_neg (by decide), if_neg (by decide), if_neg (by decide), if_neg (by decide), if_neg (by decide), if_neg (by decide), if_neg (by decide)]
theorem by_0_2 (h : Ac T m kd n a) (hne : a ≠ n) : f_M_body bf T (0 : Int32) (2 : Int32) x = some (vS0 n a x, pms T [12]) := by
  unfold f_M_body
  rw [if_neg (by decide), if_neg (by decide), if_pos (by decide), mbg h, bd_s, h.2.2.2.1, h.2.2.1, if_neg hne, gI_us, if_pos rfl, ck_of (by rw [decide_eq_false (sub_ne hne)]; rfl), uI_same (h.p (x := 12)).2.1]
  show some (x / (a - n), pms T [12]) = some ((if a - n = 0 then (-15 : Int32) else x / (a - n)), pms T [12])
  rw [if_neg (sub_ne hne)]
theorem fxS {N : Nat} {u v w : Int32} : fx_bf (N + 1) T u v w = f_M_bodyFrom (fx_bf N) T u v w := rfl
/-- turns -/
theorem t0 (h : Ac T m kd n a) {N : Nat} : f_M_body (fx_bf N) T (0 : Int32) (0 : Int32) x = some (x + a, pms T [10]) := by
  rw [by_0_0, mbg h, bd_s, h.2.2.2.1]; rfl
theorem et_1 (h : Ac T m 1 n a) {N : Nat} : fx_bf (N + 2) T (1 : Int32) (0 : Int32) x = some (vTu 6 n a x, pms T (bTu 6)) := by
  rw [fxS, bo_1_0 h.2.1]
  rw [by_1_0, mbg h, bd_s, fxS, bo_0_0 h.p.2.1, t0 h.p, bd_s]; simp only [pm1, pus_app]; exact pmE rfl rfl
theorem et_2 (h : Ac T m 2 n a) {N : Nat} : fx_bf (N + 2) T (2 : Int32) (0 : Int32) x = some (vTu 7 n a x, pms T (bTu 7)) := by
  rw [fxS, bo_2_0 h.2.1]
  rw [t0 h]; exact pmE rfl rfl
theorem et_3 (h : Ac T m 3 n a) {N : Nat} : fx_bf (N + 2) T (3 : Int32) (0 : Int32) x = some (vTu 8 n a x, pms T (bTu 8)) := by
  rw [fxS, bo_3_0 h.2.1]
  rw [by_3_0, mbg h, bd_s, fxS, bo_2_0 h.p.2.1, t0 h.p, bd_s, h.2.2.1]; simp only [pm1, pus_app]; exact pmE rfl rfl
theorem et_4 (h : Ac T m 4 n a) {N : Nat} : fx_bf (N + 2) T (4 : Int32) (0 : Int32) x = some (vTu 9 n a x, pms T (bTu 9)) := by
  rw [fxS, bo_4_0 h.2.1]
  rw [t0 h]; exact pmE rfl rfl
theorem et_5 (h : Ac T m 5 n a) {N : Nat} : fx_bf (N + 2) T (5 : Int32) (0 : Int32) x = some (vTu 10 n a x, pms T (bTu 10)) := by
  rw [fxS, bo_5_0 h.2.1]
  rw [t0 h]; exact pmE rfl rfl
theorem g0_1 (h : Ac T m 1 n a) {N : Nat} : f_M_body (fx_bf (N + 2)) T (0 : Int32) (1 : Int32) x = some (vTu 6 n a x * (2 : Int32), pms T (11 :: bTu 6)) := by
  rw [by_0_1, mbg h, bd_s, mvo h.p (K := (1 : Int32)) rfl, et_1 h.p, bd_s]; simp only [pm1, pus_app]; exact pmE rfl rfl
theorem eg_1 (h : Ac T m 1 n a) {N : Nat} : fx_bf (N + 4) T (1 : Int32) (1 : Int32) x = some (vGo 6 n a x, pms T (bGo 6)) := by
  rw [fxS, bo_1_1 h.2.1]
  rw [g0_1 h (N := N + 1)]; exact pmE rfl rfl
theorem g0_2 (h : Ac T m 2 n a) {N : Nat} : f_M_body (fx_bf (N + 2)) T (0 : Int32) (1 : Int32) x = some (vTu 7 n a x * (2 : Int32), pms T (11 :: bTu 7)) := by
  rw [by_0_1, mbg h, bd_s, mvo h.p (K := (2 : Int32)) rfl, et_2 h.p, bd_s]; simp only [pm1, pus_app]; exact pmE rfl rfl
theorem eg_2 (h : Ac T m 2 n a) {N : Nat} : fx_bf (N + 4) T (2 : Int32) (1 : Int32) x = some (vGo 7 n a x, pms T (bGo 7)) := by
  rw [fxS, bo_2_1 h.2.1]
  rw [by_2_1, mbg h, bd_s, fxS, bo_0_1 h.p.2.1, g0_2 h.p (N := N), bd_s, h.2.2.2.1]; simp only [pm1, pus_app]; exact pmE rfl rfl
theorem g0_3 (h : Ac T m 3 n a) {N : Nat} : f_M_body (fx_bf (N + 2)) T (0 : Int32) (1 : Int32) x = some (vTu 8 n a x * (2 : Int32), pms T (11 :: bTu 8)) := by
  rw [by_0_1, mbg h, bd_s, mvo h.p (K := (3 : Int32)) rfl, et_3 h.p, bd_s]; simp only [pm1, pus_app]; exact pmE rfl rfl
theorem eg_3 (h : Ac T m 3 n a) {N : Nat} : fx_bf (N + 4) T (3 : Int32) (1 : Int32) x = some (vGo 8 n a x, pms T (bGo 8)) := by
  rw [fxS, bo_3_1 h.2.1]
  rw [by_2_1, mbg h, bd_s, fxS, bo_0_1 h.p.2.1, g0_3 h.p (N := N), bd_s, h.2.2.2.1]; simp only [pm1, pus_app]; exact pmE rfl rfl
theorem g0_4 (h : Ac T m 4 n a) {N : Nat} : f_M_body (fx_bf (N + 2)) T (0 : Int32) (1 : Int32) x = some (vTu 9 n a x * (2 : Int32), pms T (11 :: bTu 9)) := by
  rw [by_0_1, mbg h, bd_s, mvo h.p (K := (4 : Int32)) rfl, et_4 h.p, bd_s]; simp only [pm1, pus_app]; exact pmE rfl rfl
theorem eg_4 (h : Ac T m 4 n a) {N : Nat} : fx_bf (N + 4) T (4 : Int32) (1 : Int32) x = some (vGo 9 n a x, pms T (bGo 9)) := by
  rw [fxS, bo_4_1 h.2.1]
  rw [g0_4 h (N := N + 1)]; exact pmE rfl rfl
theorem g0_5 (h : Ac T m 5 n a) {N : Nat} : f_M_body (fx_bf (N + 2)) T (0 : Int32) (1 : Int32) x = some (vTu 10 n a x * (2 : Int32), pms T (11 :: bTu 10)) := by
  rw [by_0_1, mbg h, bd_s, mvo h.p (K := (5 : Int32)) rfl, et_5 h.p, bd_s]; simp only [pm1, pus_app]; exact pmE rfl rfl
theorem eg_5 (h : Ac T m 5 n a) {N : Nat} : fx_bf (N + 4) T (5 : Int32) (1 : Int32) x = some (vGo 10 n a x, pms T (bGo 10)) := by
  rw [fxS, bo_5_1 h.2.1]
  rw [by_5_1, mbg h, bd_s, fxS, bo_4_1 h.p.2.1, g0_5 h.p (N := N), bd_s, ← Int32.zero_sub]; simp only [pm1, pus_app]; exact pmE rfl rfl
theorem es_1 (h : Ac T m 1 n a) (hne : a ≠ n) {N : Nat} : fx_bf (N + 3) T (1 : Int32) (2 : Int32) x = some (vSe 6 n a x, pms T (bSe 6)) := by
  rw [fxS, bo_1_2 h.2.1]
  rw [by_0_2 h hne]; exact pmE rfl rfl
theorem es_2 (h : Ac T m 2 n a) (hne : a ≠ n) {N : Nat} : fx_bf (N + 3) T (2 : Int32) (2 : Int32) x = some (vSe 7 n a x, pms T (bSe 7)) := by
  rw [fxS, bo_2_2 h.2.1]
  rw [by_0_2 h hne]; exact pmE rfl rfl
theorem es_3 (h : Ac T m 3 n a) (hne : a ≠ n) {N : Nat} : fx_bf (N + 3) T (3 : Int32) (2 : Int32) x = some (vSe 8 n a x, pms T (bSe 8)) := by
  rw [fxS, bo_3_2 h.2.1]
  rw [by_0_2 h hne]; exact pmE rfl rfl
theorem es_4 (h : Ac T m 4 n a) (hne : a ≠ n) {N : Nat} : fx_bf (N + 3) T (4 : Int32) (2 : Int32) x = some (vSe 9 n a x, pms T (bSe 9)) := by
  rw [fxS, bo_4_2 h.2.1]
  rw [by_4_2, mbg h, bd_s, fxS, bo_0_2 h.p.2.1, by_0_2 h.p hne, bd_s]; simp only [pm1, pus_app]; exact pmE rfl rfl
theorem es_5 (h : Ac T m 5 n a) (hne : a ≠ n) {N : Nat} : fx_bf (N + 3) T (5 : Int32) (2 : Int32) x = some (vSe 10 n a x, pms T (bSe 10)) := by
  rw [fxS, bo_5_2 h.2.1]
  rw [by_5_2, mbg h, bd_s, fxS, bo_4_2 h.p.2.1, by_4_2, mbg h.p, bd_s, fxS, bo_0_2 h.p.p.2.1, by_0_2 h.p.p hne, bd_s, bd_s]
  have h4 : Ac (pms (pm (pm T 61) 40) [12]) m 5 n a := Ac.ps [12] h.p.p
  rw [mvo h4 (K := (5 : Int32)) rfl, et_5 h4 (N := N), bd_s, h.2.2.1]; simp only [pm1, pus_app]; exact pmE rfl rfl
theorem el_1 (h : Ac T m 1 n a) (hne : a ≠ n) {N : Nat} : fx_bf (N + 6) T (1 : Int32) (3 : Int32) x = some (vTe 6 n a x, pms T (bTe 6)) := by
  rw [fxS, bo_1_3 h.2.1]
  rw [by_0_3, mbg h, bd_s, mvo h.p (K := (1 : Int32)) rfl, eg_1 h.p (N := N + 1), bd_s, h.2.2.1]; simp only [pm1, pus_app]; exact pmE rfl rfl
theorem el_2 (h : Ac T m 2 n a) (hne : a ≠ n) {N : Nat} : fx_bf (N + 6) T (2 : Int32) (3 : Int32) x = some (vTe 7 n a x, pms T (bTe 7)) := by
  rw [fxS, bo_2_3 h.2.1]
  rw [by_0_3, mbg h, bd_s, mvo h.p (K := (2 : Int32)) rfl, eg_2 h.p (N := N + 1), bd_s, h.2.2.1]; simp only [pm1, pus_app]; exact pmE rfl rfl
theorem el_3 (h : Ac T m 3 n a) (hne : a ≠ n) {N : Nat} : fx_bf (N + 6) T (3 : Int32) (3 : Int32) x = some (vTe 8 n a x, pms T (bTe 8)) := by
  rw [fxS, bo_3_3 h.2.1]
  rw [by_3_3, mbg h, bd_s, fxS, bo_2_3 h.p.2.1, by_0_3, mbg h.p, bd_s, mvo h.p.p (K := (3 : Int32)) rfl, eg_3 h.p.p (N := N), bd_s, bd_s, h.p.2.2.1]
  have h4 : Ac (pms (pm (pm T 51) 13) (bGo 8)) m 3 n a := Ac.ps (bGo 8) h.p.p
  rw [mvo h4 (K := (3 : Int32)) rfl, fxS, bo_3_2 h4.2.1, by_0_2 h4 hne, bd_s, h.2.2.1]; simp only [pm1, pus_app]; exact pmE rfl rfl
theorem el_4 (h : Ac T m 4 n a) (hne : a ≠ n) {N : Nat} : fx_bf (N + 6) T (4 : Int32) (3 : Int32) x = some (vTe 9 n a x, pms T (bTe 9)) := by
  rw [fxS, bo_4_3 h.2.1]
  rw [by_0_3, mbg h, bd_s, mvo h.p (K := (4 : Int32)) rfl, eg_4 h.p (N := N + 1), bd_s, h.2.2.1]; simp only [pm1, pus_app]; exact pmE rfl rfl
theorem el_5 (h : Ac T m 5 n a) (hne : a ≠ n) {N : Nat} : fx_bf (N + 6) T (5 : Int32) (3 : Int32) x = some (vTe 10 n a x, pms T (bTe 10)) := by
  rw [fxS, bo_5_3 h.2.1]
  rw [by_0_3, mbg h, bd_s, mvo h.p (K := (5 : Int32)) rfl, eg_5 h.p (N := N + 1), bd_s, h.2.2.1]; simp only [pm1, pus_app]; exact pmE rfl rfl
end
