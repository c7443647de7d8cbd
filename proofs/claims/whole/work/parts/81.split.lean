/-! The class splits its tape. -/
def Fc (P : Nat → Nat → Prop) (S T : hs) : Prop := (∀ a i, ¬ P a i → gI T a i = gI S a i) ∧ ∀ a i, gJ T a i = gJ S a i
theorem Fc.rfl' {P : Nat → Nat → Prop} {S : hs} : Fc P S S := ⟨fun _ _ _ => rfl, fun _ _ => rfl⟩
theorem Fc.trans {P : Nat → Nat → Prop} {S T U : hs} (h : Fc P S T) (k : Fc P T U) : Fc P S U := ⟨fun a i q => (k.1 a i q).trans (h.1 a i q), fun a i => (k.2 a i).trans (h.2 a i)⟩
theorem Fc.mono {P Q : Nat → Nat → Prop} {S T : hs} (h : Fc P S T) (q : ∀ a i, P a i → Q a i) : Fc Q S T := ⟨fun a i k => h.1 a i fun z => k (q a i z), h.2⟩
theorem Fc.uI {P : Nat → Nat → Prop} {S T : hs} {a i : Nat} {v : Int32} (h : Fc P S T) (q : P a i) : Fc P S (uI T a i v) := ⟨fun b j k => by
  rw [gI_u, if_neg (fun z => k (by rw [z.1, z.2]; exact q))]; exact h.1 b j k, fun b j => h.2 b j⟩
theorem fiN_f (p : Nat → Bool) : ∀ (r i z : Nat), i ≤ z → z < fiN p r i → p z = false
  | 0, i, z, h1, h2 => by rw [fiN] at h2; omega
  | r + 1, i, z, h1, h2 => by
    rw [fiN] at h2
    by_cases q : p i = true
    · rw [if_pos q] at h2; omega
    · rw [if_neg q] at h2
      by_cases e : z = i
      · subst e; exact Bool.eq_false_iff.mpr q
      · exact fiN_f p r (i + 1) z (by omega) h2
theorem fiN_t (p : Nat → Bool) : ∀ (r i : Nat), fiN p r i < i + r → p (fiN p r i) = true
  | 0, i, h => by rw [fiN] at h; omega
  | r + 1, i, h => by
    rw [fiN] at h ⊢
    by_cases q : p i = true
    · rw [if_pos q]; exact q
    · rw [if_neg q] at h ⊢; exact fiN_t p r (i + 1) (by omega)
theorem lt_dg {b : Nat} : ¬ (isLt b = true ∧ isDg b = true) := fun h => by
  unfold isLt isDg at h
  simp only [Bool.and_eq_true, decide_eq_true_eq] at h
  omega
section
variable {k : cx} {S S1 S2 T : hs} {B : Nat → Nat} {n : Nat}
theorem tkE_r {x : Nat} (hx : x < n) : x < tkE B n x ∧ tkE B n x ≤ n := by
  have := fiN_r (fun y => !goOn B y) (n - (x + 1)) (x + 1)
  unfold tkE; omega
theorem tkS_r {p : Nat} (hp : p ≤ n) : p ≤ tkS B n p ∧ tkS B n p ≤ n := by
  have := fiN_r (isTk B) (n - p) p
  unfold tkS; omega
theorem goOn_c {z : Nat} (h : goOn B z = true) : 1 ≤ z ∧ isLt (B z) = isLt (B (z - 1)) ∧ isDg (B z) = isDg (B (z - 1)) := by
  unfold goOn at h
  simp only [Bool.and_eq_true, decide_eq_true_eq, Bool.or_eq_true] at h
  obtain ⟨h1, h2 | h2⟩ := h
  · refine ⟨h1, by rw [h2.1, h2.2], ?_⟩
    rw [Bool.eq_false_iff.mpr (fun q => lt_dg ⟨h2.1, q⟩), Bool.eq_false_iff.mpr (fun q => lt_dg ⟨h2.2, q⟩)]
  · refine ⟨h1, ?_, by rw [h2.1, h2.2]⟩
    rw [Bool.eq_false_iff.mpr (fun q => lt_dg ⟨q, h2.1⟩), Bool.eq_false_iff.mpr (fun q => lt_dg ⟨q, h2.2⟩)]
theorem run_c {x : Nat} : ∀ (d z : Nat), z = x + d → z < tkE B n x → isLt (B z) = isLt (B x) ∧ isDg (B z) = isDg (B x) := by
  intro d
  induction d with
  | zero => intro z hz _; subst hz; exact ⟨rfl, rfl⟩
  | succ d ih =>
    intro z hz hlt
    have g := fiN_f (fun y => !goOn B y) (n - (x + 1)) (x + 1) z (by omega) hlt
    have g : goOn B z = true := by simpa using g
    obtain ⟨h1, h2, h3⟩ := goOn_c g
    obtain ⟨i1, i2⟩ := ih (z - 1) (by omega) (by omega)
    exact ⟨h2.trans i1, h3.trans i2⟩
theorem pR_tokenOf (hT : TpC S B n) (hS : IvS S) {x : Nat} (hx : x < n) : f_R_tokenOf S (iN x) (iN (tkE B n x)) = some (tkV B x (tkE B n x), S) := by
  have h2 := hT.2.1
  obtain ⟨b1, b2⟩ := hT.2.2 x hx
  obtain ⟨e1, e2⟩ := tkE_r (B := B) hx
  unfold f_R_tokenOf tkV
  rw [ck_of (iN_b (by omega) (by decide)), iN_c (by omega), b2, pR_isLetter b1, bd_s, if_bI]
  cases l1 : isLt (B x) with
  | true => rw [bt_t, pR_wordOf hT hS e2 (by omega), bd_s, if_pos rfl]
  | false =>
    have ff : ¬ (false = true) := by decide
    rw [bt_f, b2, pR_isDigit b1, bd_s, if_bI, if_neg ff]
    cases d1 : isDg (B x) with
    | false => rw [bt_f, b2, (lt_ok _ b1).2.2.2, if_neg ff]
    | true =>
      rw [bt_t, iN_s (by omega), if_pos (show true = true from rfl)]
      by_cases q : tkE B n x - x ≤ 4
      · rw [if_pos (le_y (b := 4) (iN_i (by omega)) rfl (by omega)), if_pos q]
        have := nm_l hT e2 (tkE B n x - x) x 1000 0 (by omega) (by omega) (fun z h1 h2 => by rw [(run_c (z - x) z (by omega) h2).2]; exact d1) (Nat.pow_pos (by decide)) q
        have this : f_R_numberOf S (iN x) (iN (tkE B n x)) = _ := this
        rw [this, bd_s]
      · rw [if_neg (le_n (b := 4) (iN_i (by omega)) rfl (by omega)), if_neg q]
/-- where the tokens begin -/
def stq (B : Nat → Nat) (n : Nat) : Nat → Nat
  | 0 => tkS B n 0
  | i + 1 => if stq B n i < n then tkS B n (stq B n i + 1) else n
def tkc (B : Nat → Nat) (n i : Nat) : Int32 := if stq B n i < n then tkV B (stq B n i) (tkE B n (stq B n i)) else 20000
def TkC (S : hs) (B : Nat → Nat) (n N : Nat) : Prop := gI S 128 5 = iN N ∧ N ≤ n ∧ stq B n N = n ∧ ∀ j, j < N → stq B n j < n ∧ gI S 136 j = tkV B (stq B n j) (tkE B n (stq B n j)) ∧ gI S 137 j = iN (stq B n j)
def PsT (a i : Nat) : Prop := a = 136 ∨ a = 137 ∨ (a = 128 ∧ i = 5)
theorem TpC.fc {P : Nat → Nat → Prop} (h : TpC S B n) (f : Fc P S T) (q : ¬ P 128 2) (q2 : ∀ i, ¬ P 135 i) : TpC T B n := ⟨(f.1 128 2 q).trans h.1, h.2.1, fun i hi => ⟨(h.2.2 i hi).1, (f.1 135 i (q2 i)).trans (h.2.2 i hi).2⟩⟩
theorem IvS.fc {P : Nat → Nat → Prop} (h : IvS S) (f : Fc P S T) (q : ∀ a i, 16 ≤ a → a < 32 → ¬ P a i) : IvS T := h.cg (fun a i h1 h2 => f.1 a i (q a i h1 h2))
theorem nPs {a i : Nat} (h : a ≠ 136 ∧ a ≠ 137 ∧ ¬ (a = 128 ∧ i = 5)) : ¬ PsT a i := fun z => by unfold PsT at z; omega
theorem sp_l : ∀ (r x f i : Nat) (T : hs), TpC T B n → IvS T → gI T 128 5 = iN i → stq B n i = tkS B n x → i ≤ x → (∀ j, j < i → stq B n j < n ∧ gI T 136 j = tkV B (stq B n j) (tkE B n (stq B n j)) ∧ gI T 137 j = iN (stq B n j)) → x + r = n → r < f → ∃ U N, lp_R_splitTape_7 f T (iN x) = some (0, U) ∧ Fc PsT T U ∧ TkC U B n N := by
  intro r
  induction r with
  | zero =>
    intro x f i T hT hS h5 hs hi hj hx hf
    obtain ⟨f, rfl⟩ : ∃ q, f = q + 1 := ⟨f - 1, by omega⟩
    have h2 := hT.2.1
    obtain rfl : x = n := by omega
    refine ⟨T, i, by rw [lp_R_splitTape_7, hT.1, if_pos ((iN_le (by omega) (by omega)).mpr (by omega))], Fc.rfl', h5, hi, ?_, hj⟩
    have := tkS_r (B := B) (n := x) (p := x) (Nat.le_refl _)
    omega
  | succ r ih =>
    intro x f i T hT hS h5 hs hi hj hx hf
    obtain ⟨f, rfl⟩ : ∃ q, f = q + 1 := ⟨f - 1, by omega⟩
    have h2 := hT.2.1
    obtain ⟨b1, b2⟩ := hT.2.2 x (by omega)
    have e32 := (lt_ok _ b1).2.2.1
    have tS : tkS B n x = if isTk B x = true then x else tkS B n (x + 1) := by
      unfold tkS
      rw [show n - x = (n - (x + 1)) + 1 from by omega, fiN]
    rw [lp_R_splitTape_7, hT.1, if_neg (fun z => by have := (iN_le (by omega) (by omega)).mp z; omega), if_neg (le_n (a := 200) rfl (iN_i (by omega)) (by omega)), ck_of (iN_b (by omega) (by decide)), iN_c (by omega), b2, iN_1]
    by_cases q : B x = 32
    · rw [if_pos (e32.mpr q)]
      have : isTk B x = false := by unfold isTk; rw [decide_eq_true q]; rfl
      rw [this, if_neg (by decide)] at tS
      exact ih (x + 1) f i T hT hS h5 (hs.trans tS) (by omega) hj (by omega) (by omega)
    · rw [if_neg (fun z => q (e32.mp z)), pR_goesOn hT (by omega), bd_s, if_bI]
      cases g : goOn B x with
      | true =>
        rw [bt_t]
        have : isTk B x = false := by unfold isTk; rw [g]; exact Bool.and_false _
        rw [this, if_neg (by decide)] at tS
        exact ih (x + 1) f i T hT hS h5 (hs.trans tS) (by omega) hj (by omega) (by omega)
      | false =>
        have : isTk B x = true := by unfold isTk; rw [g, decide_eq_false q]; rfl
        rw [this, if_pos rfl] at tS
        have sx0 : stq B n i = x := hs.trans tS
        rw [bt_f, pR_endOfRun hT (by omega), bd_s, pR_tokenOf hT hS (by omega), bd_s, h5, ck_of (iN_b (by omega) (by decide)), iN_c (by omega), gI_ua (by omega), h5, ck_of (iN_b (by omega) (by decide)), iN_c (by omega), gI_ua (by omega), gI_ua (by omega), h5, iN_1]
        have fV : Fc PsT T (uI (uI (uI T 136 i (tkV B x (tkE B n x))) 137 i (iN x)) 128 5 (iN (i + 1))) := ((Fc.rfl'.uI (Or.inl rfl)).uI (Or.inr (Or.inl rfl))).uI (Or.inr (Or.inr ⟨rfl, rfl⟩))
        obtain ⟨U, N, a1, a2, a3⟩ := ih (x + 1) f (i + 1) _ (hT.fc fV (nPs (by omega)) (fun _ => nPs (by omega))) (hS.fc fV (fun a i h1 h2 => nPs (by omega))) gI_us (by
          show (if stq B n i < n then tkS B n (stq B n i + 1) else n) = _
          rw [sx0, if_pos (by omega)]) (by omega) (fun j hji => by
          have g6 : gI (uI (uI (uI T 136 i (tkV B x (tkE B n x))) 137 i (iN x)) 128 5 (iN (i + 1))) 136 j = if j = i then tkV B x (tkE B n x) else gI T 136 j := by
            rw [gI_ua (by decide), gI_ua (by decide), gI_u]
            by_cases z : j = i
            · rw [if_pos ⟨rfl, z⟩, if_pos z]
            · rw [if_neg (fun y => z y.2), if_neg z]
          have g7 : gI (uI (uI (uI T 136 i (tkV B x (tkE B n x))) 137 i (iN x)) 128 5 (iN (i + 1))) 137 j = if j = i then iN x else gI T 137 j := by
            rw [gI_ua (by decide), gI_u]
            by_cases z : j = i
            · rw [if_pos ⟨rfl, z⟩, if_pos z]
            · rw [if_neg (fun y => z y.2), if_neg z, gI_ua (by decide)]
          rw [g6, g7]
          by_cases z : j = i
          · rw [if_pos z, if_pos z, z, sx0]
            exact ⟨by omega, rfl, rfl⟩
          · rw [if_neg z, if_neg z]; exact hj j (by omega)) (by omega) (by omega)
        exact ⟨U, N, a1, fV.trans a2, a3⟩
theorem pR_splitTape (hT : TpC S B n) (hS : IvS S) : ∃ U N, f_R_splitTape S = some (0, U) ∧ Fc PsT S U ∧ TkC U B n N := by
  have h2 := hT.2.1
  have f0 : Fc PsT S (uI S 128 5 (0 : Int32)) := Fc.rfl'.uI (Or.inr (Or.inr ⟨rfl, rfl⟩))
  obtain ⟨U, N, a1, a2, a3⟩ := sp_l (B := B) (n := n) n 0 1000 0 (uI S 128 5 (0 : Int32)) (hT.fc f0 (nPs (by omega)) (fun _ => nPs (by omega))) (hS.fc f0 (fun a i h1 h2 => nPs (by omega))) gI_us rfl (Nat.le_refl _) (fun j hj => by omega) (by omega) (by omega)
  exact ⟨U, N, a1, f0.trans a2, a3⟩
end
