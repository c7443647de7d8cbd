/-! The tape in tokens: pure, and the class's. -/
def isLt (b : Nat) : Bool := decide (97 ≤ b) && decide (b ≤ 122)
def isDg (b : Nat) : Bool := decide (48 ≤ b) && decide (b ≤ 57)
def goOn (B : Nat → Nat) (x : Nat) : Bool := decide (1 ≤ x) && ((isLt (B x) && isLt (B (x - 1))) || (isDg (B x) && isDg (B (x - 1))))
def isTk (B : Nat → Nat) (x : Nat) : Bool := !decide (B x = 32) && !goOn B x
/-- the first of r numbers from i on, or the number behind them -/
def fiN (p : Nat → Bool) : Nat → Nat → Nat
  | 0, i => i
  | r + 1, i => if p i = true then i else fiN p r (i + 1)
theorem fiN_r (p : Nat → Bool) : ∀ (r i : Nat), i ≤ fiN p r i ∧ fiN p r i ≤ i + r
  | 0, i => ⟨Nat.le_refl _, Nat.le_refl _⟩
  | r + 1, i => by
    have := fiN_r p r (i + 1)
    rw [fiN]
    split <;> omega
def tkE (B : Nat → Nat) (n x : Nat) : Nat := fiN (fun y => !goOn B y) (n - (x + 1)) (x + 1)
def tkS (B : Nat → Nat) (n p : Nat) : Nat := fiN (isTk B) (n - p) p
def tLen (a : Nat) : Nat := (tK (16 + a)).2
def tCh (a k : Nat) : Int32 := (txB.getD a []).getD k 0
/-- text a from place x on, k letters of it done, r wanting -/
def wdR (B : Nat → Nat) (a x : Nat) : Nat → Nat → Bool
  | 0, _ => true
  | r + 1, k => decide (iN (B (x + k)) = tCh a k) && wdR B a x r (k + 1)
def wdM (B : Nat → Nat) (a x e : Nat) : Bool := decide (e - x = tLen a) && wdR B a x (e - x) 0
def wdC : Nat → Int32
  | 0 => 20010
  | 1 => 20011
  | 2 => 20012
  | 3 => 20013
  | 4 => 20014
  | 5 => 20015
  | 6 => 10000
  | 7 => 10001
  | 8 => 10002
  | 9 => 10003
  | 10 => 10004
  | 11 => 10005
  | 12 => 20002
  | 13 => 20003
  | 14 => 20004
  | 15 => 20005
  | _ => 20001
/-- the first text that it is -/
def wdF (B : Nat → Nat) (x e : Nat) : Nat := fiN (fun a => wdM B a x e) 16 0
def nmV (B : Nat → Nat) : Nat → Nat → Nat → Nat
  | 0, _, acc => acc
  | r + 1, x, acc => nmV B r (x + 1) (acc * 10 + (B x - 48))
def tkV (B : Nat → Nat) (x e : Nat) : Int32 := if isLt (B x) = true then wdC (wdF B x e) else if isDg (B x) = true then (if e - x ≤ 4 then iN (nmV B (e - x) x 0) else 20001) else 20100 + iN (B x)
def sx (b : Nat) : Int32 := (iN b).toInt8.toInt32
def TpC (S : hs) (B : Nat → Nat) (n : Nat) : Prop := gI S 128 2 = iN n ∧ n ≤ 200 ∧ ∀ i, i < n → B i < 256 ∧ gI S 135 i = sx (B i)
def ltI (x0 : Int32) : Int32 := (if x0 < (97 : Int32) then 0 else (if (122 : Int32) < x0 then 0 else 1))
def dgI (x0 : Int32) : Int32 := (if x0 < (48 : Int32) then 0 else (if (57 : Int32) < x0 then 0 else 1))
theorem lt_ok : ∀ b, b < 256 → ltI (sx b) = bI (isLt b) ∧ dgI (sx b) = bI (isDg b) ∧ ((sx b = 32) ↔ b = 32) ∧ (sx b &&& (255 : Int32)) = iN b := by decide +kernel
theorem sx_d : ∀ b, b < 58 → sx b = iN b := by decide +kernel
theorem tx_ok : ∀ a, a < 16 → tLen a ≤ 5 ∧ 1 ≤ tLen a ∧ (slen a >>> ((0 : Int32) &&& 31)) = iN (tLen a) ∧ slen a = iN (tLen a) ∧ ∀ k, k < tLen a → isN .char (((tCh a k &&& (255 : Int32)).toUInt32 % 65536).toInt32) = true ∧ (((tCh a k &&& (255 : Int32)).toUInt32 % 65536).toInt32) = tCh a k := by decide +kernel
theorem sx_c : ∀ a, a < 16 → ∀ k, k < tLen a → ∀ b, b < 256 → ((sx b = tCh a k) ↔ (iN b = tCh a k)) := by decide +kernel
section
variable {k : cx} {S S1 S2 T : hs} {B : Nat → Nat} {n : Nat}
theorem pR_isLetter {b : Nat} (h : b < 256) : f_R_isLetter S (sx b) = some (bI (isLt b), S) := by
  rw [← (lt_ok b h).1]
  unfold f_R_isLetter ltI
  split
  · rfl
  · split <;> rfl
theorem pR_isDigit {b : Nat} (h : b < 256) : f_R_isDigit S (sx b) = some (bI (isDg b), S) := by
  rw [← (lt_ok b h).2.1]
  unfold f_R_isDigit dgI
  split
  · rfl
  · split <;> rfl
theorem pR_goesOn (hT : TpC S B n) {x : Nat} (hx : x < n) : f_R_goesOn S (iN x) = some (bI (goOn B x), S) := by
  obtain ⟨h1, h2, h3⟩ := hT
  unfold f_R_goesOn goOn
  by_cases q : x = 0
  · subst q
    rw [if_pos (by decide)]; rfl
  · obtain ⟨b1, b2⟩ := h3 x hx
    obtain ⟨c1, c2⟩ := h3 (x - 1) (by omega)
    have e : iN x - (1 : Int32) = iN (x - 1) := iN_s (b := 1) (by omega)
    rw [if_neg (lt_n (b := 1) (iN_i (by omega)) rfl (by omega)), if_pos (lt_y (b := 200) (iN_i (by omega)) rfl (by omega)), ck_of (iN_b (by omega) (by decide)), iN_c (by omega), b2, pR_isLetter b1, bd_s, if_bI, decide_eq_true (show 1 ≤ x by omega), Bool.true_and]
    cases l1 : isLt (B x) with
    | true =>
      rw [bt_t, e, ck_of (iN_b (by omega) (by decide)), iN_c (by omega), c2, pR_isLetter c1, bd_s, ck_of (bI_B _)]
      have : isDg (B x) = false := by
        unfold isLt at l1; unfold isDg
        simp only [Bool.and_eq_true, decide_eq_true_eq] at l1
        simp only [Bool.and_eq_false_iff, decide_eq_false_iff_not]; omega
      rw [this, Bool.false_and, Bool.or_false, Bool.true_and]
    | false =>
      rw [bt_f, b2, pR_isDigit b1, bd_s, if_bI, Bool.false_and, Bool.false_or]
      cases d1 : isDg (B x) with
      | false => rw [bt_f]; rfl
      | true =>
        rw [bt_t, e, ck_of (iN_b (by omega) (by decide)), iN_c (by omega), c2, pR_isDigit c1, bd_s, if_bI]
        cases isDg (B (x - 1)) <;> rfl
theorem er_l (hT : TpC S B n) : ∀ (r y f : Nat), y + r = n → r < f → lp_R_endOfRun_4 f S (iN y) = some (iN (fiN (fun y => !goOn B y) r y), S) := by
  have h2 := hT.2.1
  intro r
  induction r with
  | zero =>
    intro y f hy hf
    obtain ⟨f, rfl⟩ : ∃ q, f = q + 1 := ⟨f - 1, by omega⟩
    rw [lp_R_endOfRun_4, hT.1, if_pos ((iN_le (by omega) (by omega)).mpr (by omega))]; rfl
  | succ r ih =>
    intro y f hy hf
    obtain ⟨f, rfl⟩ : ∃ q, f = q + 1 := ⟨f - 1, by omega⟩
    rw [lp_R_endOfRun_4, hT.1, if_neg (fun z => by have := (iN_le (by omega) (by omega)).mp z; omega), if_neg (le_n (a := 200) rfl (iN_i (by omega)) (by omega)), pR_goesOn hT (by omega), bd_s, if_bI, iN_1, fiN]
    cases g : goOn B y with
    | false => rw [bt_f]; rfl
    | true => rw [bt_t]; exact ih (y + 1) f (by omega) (by omega)
theorem pR_endOfRun (hT : TpC S B n) {x : Nat} (hx : x < n) : f_R_endOfRun S (iN x) = some (iN (tkE B n x), S) := by
  unfold f_R_endOfRun
  have h2 := hT.2.1
  rw [iN_1]
  exact er_l hT _ _ _ (by omega) (by omega)
theorem pSt_charAt (hS : IvS S) {a j : Nat} (ha : a < 16) (hj : j < tLen a) : f_St_charAt S a (iN j) = some (tCh a j, S) := by
  obtain ⟨t1, t2, t3, t4, t5⟩ := tx_ok a ha
  obtain ⟨u1, u2⟩ := t5 j hj
  have e : gI S (16 + a) j = tCh a j := hS a ha j hj
  unfold f_St_charAt f_S1_charAt f_St_checkIndex f_Pr_checkIndex
  rw [t4, if_neg (l0 (by omega)), if_pos ((iN_lt (by omega) (by omega)).mpr hj), bd_s, bd_s, ck_of (iN_b (show j < (tK (16 + a)).2 from hj) (show (tK (16 + a)).2 ≤ 2147483648 by have : tLen a ≤ 5 := t1; unfold tLen at this; omega)), iN_c (by omega), e, ck_of u1, u2, bd_s]
  rw [u2] at u1
  rw [ck_of u1]
theorem iw_l (hT : TpC S B n) (hS : IvS S) {a x e : Nat} (ha : a < 16) (he : e ≤ n) (hl : e - x = tLen a) : ∀ (r k f : Nat), x + k + r = e → r < f → lp_R_isWord_15 a (iN x) (iN e) f S (iN (x + k)) = some (bI (wdR B a x r k), S) := by
  have h2 := hT.2.1
  intro r
  induction r with
  | zero =>
    intro k f hk hf
    obtain ⟨f, rfl⟩ : ∃ q, f = q + 1 := ⟨f - 1, by omega⟩
    rw [lp_R_isWord_15, if_pos ((iN_le (by omega) (by omega)).mpr (by omega))]; rfl
  | succ r ih =>
    intro k f hk hf
    obtain ⟨f, rfl⟩ : ∃ q, f = q + 1 := ⟨f - 1, by omega⟩
    obtain ⟨b1, b2⟩ := hT.2.2 (x + k) (by omega)
    have e1 : iN (x + k) - iN x = iN k := by rw [iN_s (by omega)]; congr 1; omega
    rw [lp_R_isWord_15, if_neg (fun z => by have := (iN_le (by omega) (by omega)).mp z; omega), if_neg (le_n (a := 200) rfl (iN_i (by omega)) (by omega)), ck_of (iN_b (by omega) (by decide)), e1, pSt_charAt hS ha (by omega), bd_s, iN_c (by omega), b2, iN_1, wdR]
    have sc := sx_c a ha k (by omega) (B (x + k)) b1
    by_cases q : iN (B (x + k)) = tCh a k
    · rw [if_pos (sc.mpr q), decide_eq_true q, Bool.true_and]
      have := ih (k + 1) f (by omega) (by omega)
      rw [← Nat.add_assoc] at this
      exact this
    · rw [if_neg (fun z => q (sc.mp z)), decide_eq_false q, Bool.false_and]; rfl
theorem pR_isWord (hT : TpC S B n) (hS : IvS S) {a x e : Nat} (ha : a < 16) (he : e ≤ n) (hx : x ≤ e) : f_R_isWord S a (iN x) (iN e) = some (bI (wdM B a x e), S) := by
  obtain ⟨t1, t2, t3, t4, t5⟩ := tx_ok a ha
  have h2 := hT.2.1
  unfold f_R_isWord f_St_length wdM
  rw [bd_s, t3, iN_s hx]
  by_cases q : e - x = tLen a
  · rw [if_pos (by rw [q]), decide_eq_true q, Bool.true_and]
    exact iw_l hT hS ha he q (e - x) 0 1000 (by omega) (by omega)
  · rw [if_neg (eq_i (by omega) (by omega) q), decide_eq_false q, Bool.false_and]; rfl
theorem pR_wordOf (hT : TpC S B n) (hS : IvS S) {x e : Nat} (he : e ≤ n) (hx : x ≤ e) : f_R_wordOf S (iN x) (iN e) = some (wdC (wdF B x e), S) := by
  have w : ∀ a, a < 16 → f_R_isWord S a (iN x) (iN e) = some (bI (wdM B a x e), S) := fun a ha => pR_isWord hT hS ha he hx
  have g : ∀ a r (F : hs → Option (Int32 × hs)) (L : Int32), a + (r + 1) = 16 → L = wdC a → F S = some (wdC (fiN (fun a => wdM B a x e) r (a + 1)), S) → (bd (f_R_isWord S a (iN x) (iN e)) fun r1 S2 => (if r1 = 0 then F S2 else some (L, S2))) = some (wdC (fiN (fun a => wdM B a x e) (r + 1) a), S) := fun a r F L har hL hF => by
    rw [w a (by omega), bd_s, if_bI, fiN]
    cases q : wdM B a x e with
    | false => rw [bt_f, hF]; rfl
    | true => rw [bt_t, hL]; rfl
  unfold f_R_wordOf wdF
  refine g 0 15 _ _ rfl rfl ?_
  refine g 1 14 _ _ rfl rfl ?_
  refine g 2 13 _ _ rfl rfl ?_
  refine g 3 12 _ _ rfl rfl ?_
  refine g 4 11 _ _ rfl rfl ?_
  refine g 5 10 _ _ rfl rfl ?_
  refine g 6 9 _ _ rfl rfl ?_
  refine g 7 8 _ _ rfl rfl ?_
  refine g 8 7 _ _ rfl rfl ?_
  refine g 9 6 _ _ rfl rfl ?_
  refine g 10 5 _ _ rfl rfl ?_
  refine g 11 4 _ _ rfl rfl ?_
  refine g 12 3 _ _ rfl rfl ?_
  refine g 13 2 _ _ rfl rfl ?_
  refine g 14 1 _ _ rfl rfl ?_
  refine g 15 0 _ _ rfl rfl ?_
  rfl
theorem nm_l (hT : TpC S B n) {e : Nat} (he : e ≤ n) : ∀ (r y f acc : Nat), y + r = e → r < f → (∀ z, y ≤ z → z < e → isDg (B z) = true) → acc < 10 ^ (4 - r) → r ≤ 4 → lp_R_numberOf_5 (iN e) f S (iN acc) (iN y) = some (iN (nmV B r y acc), S) := by
  have h2 := hT.2.1
  intro r
  induction r with
  | zero =>
    intro y f acc hy hf hd ha h4
    obtain ⟨f, rfl⟩ : ∃ q, f = q + 1 := ⟨f - 1, by omega⟩
    rw [lp_R_numberOf_5, if_pos ((iN_le (by omega) (by omega)).mpr (by omega))]; rfl
  | succ r ih =>
    intro y f acc hy hf hd ha h4
    obtain ⟨f, rfl⟩ : ∃ q, f = q + 1 := ⟨f - 1, by omega⟩
    obtain ⟨b1, b2⟩ := hT.2.2 y (by omega)
    have dy := hd y (Nat.le_refl _) (by omega)
    unfold isDg at dy
    simp only [Bool.and_eq_true, decide_eq_true_eq] at dy
    have e1 : iN acc * (10 : Int32) = iN (acc * 10) := iN_m acc 10
    have e2 : iN (acc * 10 + B y) - (48 : Int32) = iN (acc * 10 + (B y - 48)) := by
      have : iN (acc * 10 + B y) - iN 48 = iN (acc * 10 + B y - 48) := iN_s (by omega)
      rw [show acc * 10 + (B y - 48) = acc * 10 + B y - 48 from by omega]; exact this
    rw [lp_R_numberOf_5, if_neg (fun z => by have := (iN_le (by omega) (by omega)).mp z; omega), if_neg (le_n (a := 200) rfl (iN_i (by omega)) (by omega)), ck_of (iN_b (by omega) (by decide)), iN_c (by omega), b2, sx_d _ (by omega), e1, iN_a, e2, iN_1, nmV]
    refine ih (y + 1) f _ (by omega) (by omega) (fun z h1 h2 => hd z (by omega) h2) ?_ (by omega)
    have : 10 ^ (4 - r) = 10 * 10 ^ (4 - (r + 1)) := by
      rw [show 4 - r = (4 - (r + 1)) + 1 from by omega, Nat.pow_succ, Nat.mul_comm]
    omega
end
