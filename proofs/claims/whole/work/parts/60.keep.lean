/-! Towns kept. -/
def relC (a i : Nat) : Prop := (a = 34 ∧ 5 ≤ i ∧ i < 9) ∨ (36 ≤ a ∧ a < 48 ∧ i < 2) ∨ (49 ≤ a ∧ a < 69 ∧ i < 8) ∨ (70 ≤ a ∧ a < 74 ∧ i < 3) ∨ (a = 74 ∧ 5 ≤ i ∧ i < 7) ∨ (75 ≤ a ∧ a < 77 ∧ i < 8) ∨ (77 ≤ a ∧ a < 80 ∧ i < 100)
section
variable {k : cx} {S S1 S2 T : hs} {m m' : Nat → Int32} {l : Lz}
theorem TB.cg3 {g g' : Nat → Nat → Int32} (h : TB g m) (v : VM m) (q : ∀ a i, relC a i → g' a i = g a i) : TB g' m := by
  have hc := v.c.2
  have hs := v.s.2
  have hw := v.w.2
  obtain ⟨h1, h2, h3, h4, h5, h6, h7⟩ := h
  have q' : ∀ a i, ((a = 34 ∧ 5 ≤ i ∧ i < 9) ∨ (36 ≤ a ∧ a < 48 ∧ i < 2) ∨ (49 ≤ a ∧ a < 69 ∧ i < 8) ∨ (70 ≤ a ∧ a < 74 ∧ i < 3)) → g' a i = g a i := fun a i z => q a i (by unfold relC; omega)
  refine ⟨?_, ?_, ?_, ?_, fun i hi => ?_, fun j hj => ?_, fun i hi => ?_⟩
  · rw [q' 34 5 (by omega)]; exact h1
  · rw [q' 34 6 (by omega)]; exact h2
  · rw [q' 34 7 (by omega)]; exact h3
  · rw [q' 34 8 (by omega)]; exact h4
  · rw [q' (36 + i) 0 (by omega), q' (36 + i) 1 (by omega)]; exact h5 i hi
  · rw [q' (49 + j) 0 (by omega), q' (49 + j) 1 (by omega), q' (49 + j) 2 (by omega), q' (49 + j) 3 (by omega), q' (49 + j) 4 (by omega), q' (49 + j) 5 (by omega), q' (49 + j) 6 (by omega), q' (49 + j) 7 (by omega)]; exact h6 j hj
  · rw [q' (70 + i) 0 (by omega), q' (70 + i) 1 (by omega), q' (70 + i) 2 (by omega)]; exact h7 i hi
theorem LwC.cg3 {g g' : Nat → Nat → Int32} (h : LwC g l) (q : ∀ a i, relC a i → g' a i = g a i) : LwC g' l :=
  h.cg (q _ _ (by unfold relC; omega)) (fun i _ => q _ _ (by unfold relC; omega)) (fun i _ => q _ _ (by unfold relC; omega)) (fun i _ => q _ _ (by unfold relC; omega)) (fun i _ => q _ _ (by unfold relC; omega)) (fun i _ => q _ _ (by unfold relC; omega))
theorem gI_cp {S : hs} {a b N r j : Nat} : gI (cpI S a b N) r j = if r = b ∧ j < N then gI S a j else gI S r j := rfl
theorem gJ_cp {S : hs} {a b N r j : Nat} : gJ (cpI S a b N) r j = gJ S r j := rfl
theorem cp_a {K : hs → Int32 → Option (Int32 × hs)} : ∀ (r i n : Nat) (T : hs), i + r = 12 → r < n → ∃ U, lp_T_copyFrom_81_34_34 K n T (iN i) = K U (iN 12) ∧ (∀ a j, gI U a j = if 83 + i ≤ a ∧ a < 95 ∧ j < 2 then gI T (a - 47) j else gI T a j) ∧ ∀ a j, gJ U a j = gJ T a j := by
  intro r
  induction r with
  | zero =>
    intro i n T hi hn
    obtain ⟨n, rfl⟩ : ∃ q, n = q + 1 := ⟨n - 1, by omega⟩
    obtain rfl : i = 12 := by omega
    exact ⟨T, by rw [lp_T_copyFrom_81_34_34, if_pos (by decide)], fun a j => by rw [if_neg (by omega)], fun _ _ => rfl⟩
  | succ r ih =>
    intro i n T hi hn
    obtain ⟨n, rfl⟩ : ∃ q, n = q + 1 := ⟨n - 1, by omega⟩
    obtain ⟨U, h1, h2, h3⟩ := ih (i + 1) n (cpI T (36 + i) (83 + i) 2) (by omega) (by omega)
    refine ⟨U, ?_, fun a j => ?_, h3⟩
    · rw [lp_T_copyFrom_81_34_34, if_neg (le_n tl12 (iN_i (by omega)) (by omega)), ck_of (iN_b (by omega) (by decide)), iN_c (by omega), iN_1]; exact h1
    · rw [h2, gI_cp, gI_cp]; grind
theorem cp_b {K : hs → Int32 → Option (Int32 × hs)} : ∀ (r i n : Nat) (T : hs), i + r = 20 → r < n → ∃ U, lp_T_copyFrom_81_34_66 K n T (iN i) = K U (iN 20) ∧ (∀ a j, gI U a j = if 96 + i ≤ a ∧ a < 116 ∧ j < 8 then gI T (a - 47) j else gI T a j) ∧ ∀ a j, gJ U a j = gJ T a j := by
  intro r
  induction r with
  | zero =>
    intro i n T hi hn
    obtain ⟨n, rfl⟩ : ∃ q, n = q + 1 := ⟨n - 1, by omega⟩
    obtain rfl : i = 20 := by omega
    exact ⟨T, by rw [lp_T_copyFrom_81_34_66, if_pos (by decide)], fun a j => by rw [if_neg (by omega)], fun _ _ => rfl⟩
  | succ r ih =>
    intro i n T hi hn
    obtain ⟨n, rfl⟩ : ∃ q, n = q + 1 := ⟨n - 1, by omega⟩
    obtain ⟨U, h1, h2, h3⟩ := ih (i + 1) n (cpI T (49 + i) (96 + i) 8) (by omega) (by omega)
    refine ⟨U, ?_, fun a j => ?_, h3⟩
    · rw [lp_T_copyFrom_81_34_66, if_neg (le_n tl20 (iN_i (by omega)) (by omega)), ck_of (iN_b (by omega) (by decide)), iN_c (by omega), iN_1]; exact h1
    · rw [h2, gI_cp, gI_cp]; grind
theorem cp_c {K : hs → Int32 → Option (Int32 × hs)} : ∀ (r i n : Nat) (T : hs), i + r = 4 → r < n → ∃ U, lp_T_copyFrom_81_34_99 K n T (iN i) = K U (iN 4) ∧ (∀ a j, gI U a j = if 117 + i ≤ a ∧ a < 121 ∧ j < 3 then gI T (a - 47) j else gI T a j) ∧ ∀ a j, gJ U a j = gJ T a j := by
  intro r
  induction r with
  | zero =>
    intro i n T hi hn
    obtain ⟨n, rfl⟩ : ∃ q, n = q + 1 := ⟨n - 1, by omega⟩
    obtain rfl : i = 4 := by omega
    exact ⟨T, by rw [lp_T_copyFrom_81_34_99, if_pos (by decide)], fun a j => by rw [if_neg (by omega)], fun _ _ => rfl⟩
  | succ r ih =>
    intro i n T hi hn
    obtain ⟨n, rfl⟩ : ∃ q, n = q + 1 := ⟨n - 1, by omega⟩
    obtain ⟨U, h1, h2, h3⟩ := ih (i + 1) n (cpI T (70 + i) (117 + i) 3) (by omega) (by omega)
    refine ⟨U, ?_, fun a j => ?_, h3⟩
    · rw [lp_T_copyFrom_81_34_99, if_neg (le_n tl4 (iN_i (by omega)) (by omega)), ck_of (iN_b (by omega) (by decide)), iN_c (by omega), iN_1]; exact h1
    · rw [h2, gI_cp, gI_cp]; grind
theorem ag_a {K : hs → Int32 → Option (Int32 × hs)} : ∀ (r i n : Nat) (T : hs), i + r = 12 → r < n → ∃ U, lp_T_copyFrom_81_34 K n T (iN i) = K U (iN 12) ∧ (∀ a j, gI U a j = if 36 + i ≤ a ∧ a < 48 ∧ j < 2 then gI T (a + 47) j else gI T a j) ∧ ∀ a j, gJ U a j = gJ T a j := by
  intro r
  induction r with
  | zero =>
    intro i n T hi hn
    obtain ⟨n, rfl⟩ : ∃ q, n = q + 1 := ⟨n - 1, by omega⟩
    obtain rfl : i = 12 := by omega
    exact ⟨T, by rw [lp_T_copyFrom_81_34, if_pos (by decide)], fun a j => by rw [if_neg (by omega)], fun _ _ => rfl⟩
  | succ r ih =>
    intro i n T hi hn
    obtain ⟨n, rfl⟩ : ∃ q, n = q + 1 := ⟨n - 1, by omega⟩
    obtain ⟨U, h1, h2, h3⟩ := ih (i + 1) n (cpI T (83 + i) (36 + i) 2) (by omega) (by omega)
    refine ⟨U, ?_, fun a j => ?_, h3⟩
    · rw [lp_T_copyFrom_81_34, if_neg (le_n tl12 (iN_i (by omega)) (by omega)), ck_of (iN_b (by omega) (by decide)), iN_c (by omega), iN_1]; exact h1
    · rw [h2, gI_cp, gI_cp]; grind
theorem ag_b {K : hs → Int32 → Option (Int32 × hs)} : ∀ (r i n : Nat) (T : hs), i + r = 20 → r < n → ∃ U, lp_T_copyFrom_81_66 K n T (iN i) = K U (iN 20) ∧ (∀ a j, gI U a j = if 49 + i ≤ a ∧ a < 69 ∧ j < 8 then gI T (a + 47) j else gI T a j) ∧ ∀ a j, gJ U a j = gJ T a j := by
  intro r
  induction r with
  | zero =>
    intro i n T hi hn
    obtain ⟨n, rfl⟩ : ∃ q, n = q + 1 := ⟨n - 1, by omega⟩
    obtain rfl : i = 20 := by omega
    exact ⟨T, by rw [lp_T_copyFrom_81_66, if_pos (by decide)], fun a j => by rw [if_neg (by omega)], fun _ _ => rfl⟩
  | succ r ih =>
    intro i n T hi hn
    obtain ⟨n, rfl⟩ : ∃ q, n = q + 1 := ⟨n - 1, by omega⟩
    obtain ⟨U, h1, h2, h3⟩ := ih (i + 1) n (cpI T (96 + i) (49 + i) 8) (by omega) (by omega)
    refine ⟨U, ?_, fun a j => ?_, h3⟩
    · rw [lp_T_copyFrom_81_66, if_neg (le_n tl20 (iN_i (by omega)) (by omega)), ck_of (iN_b (by omega) (by decide)), iN_c (by omega), iN_1]; exact h1
    · rw [h2, gI_cp, gI_cp]; grind
theorem ag_c {K : hs → Int32 → Option (Int32 × hs)} : ∀ (r i n : Nat) (T : hs), i + r = 4 → r < n → ∃ U, lp_T_copyFrom_81_99 K n T (iN i) = K U (iN 4) ∧ (∀ a j, gI U a j = if 70 + i ≤ a ∧ a < 74 ∧ j < 3 then gI T (a + 47) j else gI T a j) ∧ ∀ a j, gJ U a j = gJ T a j := by
  intro r
  induction r with
  | zero =>
    intro i n T hi hn
    obtain ⟨n, rfl⟩ : ∃ q, n = q + 1 := ⟨n - 1, by omega⟩
    obtain rfl : i = 4 := by omega
    exact ⟨T, by rw [lp_T_copyFrom_81_99, if_pos (by decide)], fun a j => by rw [if_neg (by omega)], fun _ _ => rfl⟩
  | succ r ih =>
    intro i n T hi hn
    obtain ⟨n, rfl⟩ : ∃ q, n = q + 1 := ⟨n - 1, by omega⟩
    obtain ⟨U, h1, h2, h3⟩ := ih (i + 1) n (cpI T (117 + i) (70 + i) 3) (by omega) (by omega)
    refine ⟨U, ?_, fun a j => ?_, h3⟩
    · rw [lp_T_copyFrom_81_99, if_neg (le_n tl4 (iN_i (by omega)) (by omega)), ck_of (iN_b (by omega) (by decide)), iN_c (by omega), iN_1]; exact h1
    · rw [h2, gI_cp, gI_cp]; grind
theorem mc_k : ∀ (r i n : Nat) (T : hs), i + r = 358 → r < n → ∃ U, lp_M_copy_192_193_2 n T (iN i) = some (0, U) ∧ (∀ a j, gI U a j = if a = 193 ∧ i ≤ j ∧ j < 358 then gI T 192 j else gI T a j) ∧ ∀ a j, gJ U a j = gJ T a j := by
  intro r
  induction r with
  | zero =>
    intro i n T hi hn
    obtain ⟨n, rfl⟩ : ∃ q, n = q + 1 := ⟨n - 1, by omega⟩
    obtain rfl : i = 358 := by omega
    exact ⟨T, by rw [lp_M_copy_192_193_2, if_pos (by decide)], fun a j => by rw [if_neg (by omega)], fun _ _ => rfl⟩
  | succ r ih =>
    intro i n T hi hn
    obtain ⟨n, rfl⟩ : ∃ q, n = q + 1 := ⟨n - 1, by omega⟩
    obtain ⟨U, h1, h2, h3⟩ := ih (i + 1) n (uI T 193 i (gI T 192 i)) (by omega) (by omega)
    refine ⟨U, ?_, fun a j => ?_, h3⟩
    · rw [lp_M_copy_192_193_2, if_neg (le_n (a := 358) rfl (iN_i (by omega)) (by omega)), ck_of (iN_b (by omega) (by decide)), iN_c (by omega), iN_1]; exact h1
    · rw [h2, gI_u, gI_u]; grind
theorem mc_a : ∀ (r i n : Nat) (T : hs), i + r = 358 → r < n → ∃ U, lp_M_copy_193_192_2 n T (iN i) = some (0, U) ∧ (∀ a j, gI U a j = if a = 192 ∧ i ≤ j ∧ j < 358 then gI T 193 j else gI T a j) ∧ ∀ a j, gJ U a j = gJ T a j := by
  intro r
  induction r with
  | zero =>
    intro i n T hi hn
    obtain ⟨n, rfl⟩ : ∃ q, n = q + 1 := ⟨n - 1, by omega⟩
    obtain rfl : i = 358 := by omega
    exact ⟨T, by rw [lp_M_copy_193_192_2, if_pos (by decide)], fun a j => by rw [if_neg (by omega)], fun _ _ => rfl⟩
  | succ r ih =>
    intro i n T hi hn
    obtain ⟨n, rfl⟩ : ∃ q, n = q + 1 := ⟨n - 1, by omega⟩
    obtain ⟨U, h1, h2, h3⟩ := ih (i + 1) n (uI T 192 i (gI T 193 i)) (by omega) (by omega)
    refine ⟨U, ?_, fun a j => ?_, h3⟩
    · rw [lp_M_copy_193_192_2, if_neg (le_n (a := 358) rfl (iN_i (by omega)) (by omega)), ck_of (iN_b (by omega) (by decide)), iN_c (by omega), iN_1]; exact h1
    · rw [h2, gI_u, gI_u]; grind
/-- the class keeps its town -/
theorem pX_keep : ∃ U, f_X_keep S = some (1, U) ∧ (∀ a i, relC a i → gI U (a + 47) i = gI S a i) ∧ (∀ a i, a < 81 ∨ 127 ≤ a → ¬ (a = 33 ∧ i = 7) → gI U a i = gI S a i) ∧ gI U 33 7 = 1 ∧ ∀ a i, gJ U a i = gJ S a i := by
  unfold f_X_keep f_T_copyFrom_81_34
  generalize hS0 : uI (uI (uI (uI S 81 5 (gI S 34 5)) 81 6 (gI (uI S 81 5 (gI S 34 5)) 34 6)) 81 7 (gI (uI (uI S 81 5 (gI S 34 5)) 81 6 (gI (uI S 81 5 (gI S 34 5)) 34 6)) 34 7)) 81 8 (gI (uI (uI (uI S 81 5 (gI S 34 5)) 81 6 (gI (uI S 81 5 (gI S 34 5)) 34 6)) 81 7 (gI (uI (uI S 81 5 (gI S 34 5)) 81 6 (gI (uI S 81 5 (gI S 34 5)) 34 6)) 34 7)) 34 8) = S0
  have e0 : ∀ a i, gI S0 a i = if a = 81 ∧ 5 ≤ i ∧ i < 9 then gI S 34 i else gI S a i := by
    intro a i
    rw [← hS0]
    simp only [gI_u]
    grind
  have j0 : ∀ a i, gJ S0 a i = gJ S a i := fun a i => by rw [← hS0]; rfl
  obtain ⟨A, a1, a2, a3⟩ := cp_a (K := fun (S3 : hs) (y4 : Int32) => lp_T_copyFrom_81_34_66 (fun (S7 : hs) (y8 : Int32) => lp_T_copyFrom_81_34_99 (fun (S11 : hs) (y12 : Int32) => bd (f_A_copyFrom_121_74 S11) fun r13 S14 => some ((0 : Int32), S14)) 1000 S7 (0 : Int32)) 1000 S3 (0 : Int32)) 12 0 1000 S0 (by omega) (by omega)
  obtain ⟨B, b1, b2, b3⟩ := cp_b (K := fun (S7 : hs) (y8 : Int32) => lp_T_copyFrom_81_34_99 (fun (S11 : hs) (y12 : Int32) => bd (f_A_copyFrom_121_74 S11) fun r13 S14 => some ((0 : Int32), S14)) 1000 S7 (0 : Int32)) 20 0 1000 A (by omega) (by omega)
  obtain ⟨C, c1, c2, c3⟩ := cp_c (K := fun (S11 : hs) (y12 : Int32) => bd (f_A_copyFrom_121_74 S11) fun r13 S14 => some ((0 : Int32), S14)) 4 0 1000 B (by omega) (by omega)
  rw [show lp_T_copyFrom_81_34_34 _ 1000 S0 (0 : Int32) = bd (f_A_copyFrom_121_74 C) (fun r13 S14 => some ((0 : Int32), S14)) from a1.trans (b1.trans c1)]
  unfold f_A_copyFrom_121_74
  rw [bd_s, bd_s]
  have eC : ∀ a i, gI C a i = if 117 ≤ a ∧ a < 121 ∧ i < 3 then gI S (a - 47) i else if 96 ≤ a ∧ a < 116 ∧ i < 8 then gI S (a - 47) i else if 83 ≤ a ∧ a < 95 ∧ i < 2 then gI S (a - 47) i else if a = 81 ∧ 5 ≤ i ∧ i < 9 then gI S 34 i else gI S a i := by
    intro a i
    simp only [c2, b2, a2, e0]
    clear a1 a2 b1 b2 c1 c2 e0 hS0 j0 a3 b3 c3
    grind (splits := 60)
  refine ⟨_, rfl, fun a i r => ?_, fun a i r1 r2 => ?_, gI_us, fun a i => ?_⟩
  · unfold relC at r
    simp only [gI_u, gI_cp, eC]
    clear a1 a2 b1 b2 c1 c2 e0 hS0 j0 a3 b3 c3 eC
    grind (splits := 80)
  · simp only [gI_u, gI_cp, eC]
    clear a1 a2 b1 b2 c1 c2 e0 hS0 j0 a3 b3 c3 eC
    grind (splits := 80)
  · show gJ C a i = _
    rw [c3, b3, a3, j0]
theorem pX_again (hk : ¬ gI S 33 7 = 0) : ∃ U, f_X_again S = some (1, U) ∧ (∀ a i, relC a i → gI U a i = gI S (a + 47) i) ∧ (∀ a i, a < 34 ∨ 80 ≤ a → gI U a i = gI S a i) ∧ ∀ a i, gJ U a i = gJ S a i := by
  unfold f_X_again f_T_copyFrom_81
  rw [if_neg hk]
  generalize hS0 : uI (uI (uI (uI S 34 5 (gI S 81 5)) 34 6 (gI (uI S 34 5 (gI S 81 5)) 81 6)) 34 7 (gI (uI (uI S 34 5 (gI S 81 5)) 34 6 (gI (uI S 34 5 (gI S 81 5)) 81 6)) 81 7)) 34 8 (gI (uI (uI (uI S 34 5 (gI S 81 5)) 34 6 (gI (uI S 34 5 (gI S 81 5)) 81 6)) 34 7 (gI (uI (uI S 34 5 (gI S 81 5)) 34 6 (gI (uI S 34 5 (gI S 81 5)) 81 6)) 81 7)) 81 8) = S0
  have e0 : ∀ a i, gI S0 a i = if a = 34 ∧ 5 ≤ i ∧ i < 9 then gI S 81 i else gI S a i := by
    intro a i
    rw [← hS0]
    simp only [gI_u]
    grind
  have j0 : ∀ a i, gJ S0 a i = gJ S a i := fun a i => by rw [← hS0]; rfl
  obtain ⟨A, a1, a2, a3⟩ := ag_a (K := fun (S3 : hs) (y4 : Int32) => lp_T_copyFrom_81_66 (fun (S7 : hs) (y8 : Int32) => lp_T_copyFrom_81_99 (fun (S11 : hs) (y12 : Int32) => bd (f_A_copyFrom_121 S11) fun r13 S14 => some ((0 : Int32), S14)) 1000 S7 (0 : Int32)) 1000 S3 (0 : Int32)) 12 0 1000 S0 (by omega) (by omega)
  obtain ⟨B, b1, b2, b3⟩ := ag_b (K := fun (S7 : hs) (y8 : Int32) => lp_T_copyFrom_81_99 (fun (S11 : hs) (y12 : Int32) => bd (f_A_copyFrom_121 S11) fun r13 S14 => some ((0 : Int32), S14)) 1000 S7 (0 : Int32)) 20 0 1000 A (by omega) (by omega)
  obtain ⟨C, c1, c2, c3⟩ := ag_c (K := fun (S11 : hs) (y12 : Int32) => bd (f_A_copyFrom_121 S11) fun r13 S14 => some ((0 : Int32), S14)) 4 0 1000 B (by omega) (by omega)
  rw [show lp_T_copyFrom_81_34 _ 1000 S0 (0 : Int32) = bd (f_A_copyFrom_121 C) (fun r13 S14 => some ((0 : Int32), S14)) from a1.trans (b1.trans c1)]
  unfold f_A_copyFrom_121
  rw [bd_s, bd_s]
  have eC : ∀ a i, gI C a i = if 70 ≤ a ∧ a < 74 ∧ i < 3 then gI S (a + 47) i else if 49 ≤ a ∧ a < 69 ∧ i < 8 then gI S (a + 47) i else if 36 ≤ a ∧ a < 48 ∧ i < 2 then gI S (a + 47) i else if a = 34 ∧ 5 ≤ i ∧ i < 9 then gI S 81 i else gI S a i := by
    intro a i
    simp only [c2, b2, a2, e0]
    clear a1 a2 b1 b2 c1 c2 e0 hS0 j0 a3 b3 c3
    grind (splits := 60)
  refine ⟨_, rfl, fun a i r => ?_, fun a i r1 => ?_, fun a i => ?_⟩
  · unfold relC at r
    simp only [gI_u, gI_cp, eC]
    clear a1 a2 b1 b2 c1 c2 e0 hS0 j0 a3 b3 c3 eC
    grind (splits := 80)
  · simp only [gI_u, gI_cp, eC]
    clear a1 a2 b1 b2 c1 c2 e0 hS0 j0 a3 b3 c3 eC
    grind (splits := 80)
  · show gJ C a i = _
    rw [c3, b3, a3, j0]
theorem q_keep (h : Inv k S) : Q2 k S (f_X_keep S) (fun T => f_M_keep T) := by
  obtain ⟨S1, a1, a2, a3, a4, a5⟩ := pX_keep (S := S)
  obtain ⟨V, b1, b2, b3⟩ := mc_k 358 0 1000 S1 (by omega) (by omega)
  have h2 : f_M_keep S1 = some (1, uI V 191 2 1) := by
    unfold f_M_keep f_M_copy_192_193
    rw [show (0 : Int32) = iN 0 from rfl, b1, bd_s]
  have e : ∀ a i, a < 81 ∨ 127 ≤ a → ¬ (a = 33 ∧ i = 7) → ¬ (a = 191 ∧ i = 2) → a ≠ 193 → gI (uI V 191 2 1) a i = gI S a i := fun a i q1 q2 q3 q4 => by
    rw [gI_u, if_neg q3, b2, if_neg (fun z => q4 z.1)]; exact a3 a i q1 q2
  obtain ⟨⟨m, l, hc, hn, hlc, hlm⟩, hk, hr, hp, hh, hg, ha, hs, hi⟩ := h
  refine ⟨1, S1, _, a1, h2, fun j => a3 _ _ (by omega) (by omega), ⟨m, l, ⟨hc.1, hc.2.cg (fun a h1 h2 i => e a i (by omega) (by omega) (by omega) (by omega)) hc.1.c.2 hc.1.s.2 hc.1.w.2⟩, ⟨hn.1, fun i hi => (e 192 i (by omega) (by omega) (by omega) (by omega)).trans (hn.2 i hi)⟩, hlc.cg (e _ _ (by omega) (by omega) (by omega) (by omega)) (fun i _ => e _ _ (by omega) (by omega) (by omega) (by omega)) (fun i _ => e _ _ (by omega) (by omega) (by omega) (by omega)) (fun i _ => e _ _ (by omega) (by omega) (by omega) (by omega)) (fun i _ => e _ _ (by omega) (by omega) (by omega) (by omega)) (fun i _ => e _ _ (by omega) (by omega) (by omega) (by omega)), hlm⟩, ?_, hr.cg (fun a i q => e a i (by omega) (by omega) (by omega) (by omega)), hp.cg (fun a i q => e a i (by omega) (by omega) (by omega) (by omega)), hh.cg (fun a i q => e a i (by omega) (by omega) (by omega) (by omega)) (fun a i q1 q2 => (b3 a i).trans (a5 a i)), hg.cg (fun a i q => e a i (by omega) (by omega) (by omega) (by omega)), ha.cg (fun a i q => e a i (by omega) (by omega) (by omega) (by omega)), hs.cg (fun a i q1 q2 => e a i (by omega) (by omega) (by omega) (by omega)), (e 191 3 (by omega) (by omega) (by omega) (by omega)).trans hi⟩
  have g : ∀ a i, relC a i → gI (uI V 191 2 1) (a + 47) i = gI S a i := fun a i r => by
    have r' := r
    unfold relC at r'
    rw [gI_ua (by omega), b2, if_neg (by omega)]; exact a2 a i r
  refine ⟨?_, Or.inr ⟨gI_us, m, l, hc.1, hc.2.cg3 hc.1 (fun a i r => g a i r), hlc.cg3 (fun a i r => g a i r), fun i hi => ?_, hlm⟩⟩
  · rw [gI_us, gI_ua (by omega), b2, if_neg (by omega)]; exact a4
  · rw [gI_ua (by omega), b2, if_pos ⟨rfl, by omega, hi⟩, a3 _ _ (by omega) (by omega)]; exact hn.2 i hi
theorem q_again (h : Inv k S) : Q2 k S (f_X_again S) (fun T => f_M_again T) := by
  obtain ⟨k1, k2⟩ := h.2.1
  rcases k2 with k2 | ⟨k2, m, l, v, tb, lc, mm, lm⟩
  · refine Q2.same (r := -3) h ?_ ?_
    · unfold f_X_again
      rw [k1, k2, if_pos rfl]
    · show f_M_again S = _
      unfold f_M_again
      rw [k2, if_pos rfl]
  · obtain ⟨S1, a1, a2, a3, a5⟩ := pX_again (S := S) (by rw [k1, k2]; decide)
    obtain ⟨V, b1, b2, b3⟩ := mc_a 358 0 1000 S1 (by omega) (by omega)
    have h2 : f_M_again S1 = some (1, V) := by
      unfold f_M_again f_M_copy_193_192
      rw [a3 _ _ (by omega), k2, if_neg (by decide), show (0 : Int32) = iN 0 from rfl, b1, bd_s]
    have e : ∀ a i, a < 34 ∨ 80 ≤ a → a ≠ 192 → gI V a i = gI S a i := fun a i q1 q2 => by
      rw [b2, if_neg (fun z => q2 z.1)]; exact a3 a i q1
    have g : ∀ a i, relC a i → gI V a i = gI S (a + 47) i := fun a i r => by
      have r' := r
      unfold relC at r'
      rw [b2, if_neg (by omega)]; exact a2 a i r
    refine ⟨1, S1, V, a1, h2, fun j => a3 _ _ (by omega), h.town (m' := m) (l' := l) (fun a i q1 q2 => e a i (by omega) q2) (fun a i => (b3 a i).trans (a5 a i)) ⟨⟨v, tb.cg3 v (fun a i r => g a i r)⟩, ⟨v, fun i hi => ?_⟩, lc.cg3 (fun a i r => g a i r), lm⟩⟩
    rw [b2, if_pos ⟨rfl, by omega, hi⟩, a3 _ _ (by omega)]; exact mm i hi
end
