/-! The model's tokens. -/
def TpM (S : hs) (B : Nat → Nat) (n : Nat) : Prop := gI S 191 5 = iN n ∧ n ≤ 200 ∧ ∀ i, i < n → B i < 256 ∧ gI S 194 i = iN (B i)
def spN (B : Nat → Nat) (n p : Nat) : Nat := fiN (fun y => !decide (B y = 32)) (n - p) p
def kdB (b : Nat) : Nat := if isLt b = true then 1 else if isDg b = true then 2 else 3
def mE (B : Nat → Nat) (n s : Nat) : Nat := if isLt (B s) = true then fiN (fun y => !isLt (B y)) (n - s) s else if isDg (B s) = true then fiN (fun y => !isDg (B y)) (n - s) s else s + 1
def enq (B : Nat → Nat) (n i : Nat) : Nat := if stq B n i < n then tkE B n (stq B n i) else n
def kdq (B : Nat → Nat) (n i : Nat) : Nat := if stq B n i < n then kdB (B (stq B n i)) else 0
def TkM (S : hs) (B : Nat → Nat) (n i : Nat) : Prop := gI S 191 6 = iN (stq B n i) ∧ gI S 191 7 = iN (enq B n i) ∧ gI S 191 8 = iN (kdq B n i)
theorem fiN_skip {p : Nat → Bool} : ∀ (d r i : Nat), d ≤ r → (∀ z, i ≤ z → z < i + d → p z = false) → fiN p r i = fiN p (r - d) (i + d) := by
  intro d
  induction d with
  | zero => intro r i _ _; rfl
  | succ d ih =>
    intro r i hd h
    obtain ⟨r, rfl⟩ : ∃ q, r = q + 1 := ⟨r - 1, by omega⟩
    rw [fiN, if_neg (by rw [h i (Nat.le_refl _) (by omega)]; decide), ih r (i + 1) (by omega) (fun z h1 h2 => h z (by omega) (by omega))]
    congr 1 <;> omega
section
variable {k : cx} {S S1 S2 T : hs} {B : Nat → Nat} {n : Nat}
theorem goOn_l {i : Nat} (hi : 1 ≤ i) (h : isLt (B (i - 1)) = true) : goOn B i = isLt (B i) := by
  unfold goOn
  rw [decide_eq_true hi, h, Bool.eq_false_iff.mpr (fun q => lt_dg ⟨h, q⟩), Bool.and_true, Bool.and_false, Bool.or_false, Bool.true_and]
theorem goOn_d {i : Nat} (hi : 1 ≤ i) (h : isDg (B (i - 1)) = true) : goOn B i = isDg (B i) := by
  unfold goOn
  rw [decide_eq_true hi, h, Bool.eq_false_iff.mpr (fun q => lt_dg ⟨q, h⟩), Bool.and_true, Bool.and_false, Bool.false_or, Bool.true_and]
theorem goOn_n {i : Nat} (h1 : isLt (B (i - 1)) = false) (h2 : isDg (B (i - 1)) = false) : goOn B i = false := by
  unfold goOn
  rw [h1, h2, Bool.and_false, Bool.and_false, Bool.or_false, Bool.and_false]
theorem fi_lt : ∀ (r i : Nat), 1 ≤ i → isLt (B (i - 1)) = true → fiN (fun y => !isLt (B y)) r i = fiN (fun y => !goOn B y) r i := by
  intro r
  induction r with
  | zero => intro i _ _; rfl
  | succ r ih =>
    intro i hi h
    rw [fiN, fiN, goOn_l hi h]
    cases q : isLt (B i) with
    | false => rfl
    | true => exact ih (i + 1) (by omega) q
theorem fi_dg : ∀ (r i : Nat), 1 ≤ i → isDg (B (i - 1)) = true → fiN (fun y => !isDg (B y)) r i = fiN (fun y => !goOn B y) r i := by
  intro r
  induction r with
  | zero => intro i _ _; rfl
  | succ r ih =>
    intro i hi h
    rw [fiN, fiN, goOn_d hi h]
    cases q : isDg (B i) with
    | false => rfl
    | true => exact ih (i + 1) (by omega) q
theorem mE_e {s : Nat} (hs1 : s < n) : mE B n s = tkE B n s := by
  unfold mE tkE
  cases l1 : isLt (B s) with
  | true =>
    rw [if_pos rfl, show n - s = (n - (s + 1)) + 1 from by omega, fiN, if_neg (by rw [l1]; decide)]
    exact fi_lt _ (s + 1) (by omega) l1
  | false =>
    rw [if_neg (by decide)]
    cases d1 : isDg (B s) with
    | true =>
      rw [if_pos rfl, show n - s = (n - (s + 1)) + 1 from by omega, fiN, if_neg (by rw [d1]; decide)]
      exact fi_dg _ (s + 1) (by omega) d1
    | false =>
      rw [if_neg (by decide)]
      have g : goOn B (s + 1) = false := goOn_n l1 d1
      cases n - (s + 1) with
      | zero => rfl
      | succ r => rw [fiN, if_pos (by rw [g]; rfl)]
theorem sp_32 : isLt 32 = false ∧ isDg 32 = false := by decide
theorem sp_tk : ∀ (r i : Nat), (r = 0 ∨ goOn B i = false) → fiN (isTk B) r i = fiN (fun y => !decide (B y = 32)) r i := by
  intro r
  induction r with
  | zero => intro i _; rfl
  | succ r ih =>
    intro i h
    have g : goOn B i = false := h.elim (fun z => by omega) id
    rw [fiN, fiN]
    by_cases q : B i = 32
    · rw [if_neg (by unfold isTk; rw [decide_eq_true q, Bool.not_true, Bool.false_and]; decide), if_neg (by rw [decide_eq_true q]; decide)]
      refine ih (i + 1) (Or.inr (goOn_n ?_ ?_))
      · rw [Nat.add_sub_cancel, q]; exact sp_32.1
      · rw [Nat.add_sub_cancel, q]; exact sp_32.2
    · rw [if_pos (by unfold isTk; rw [decide_eq_false q, g]; rfl), if_pos (by rw [decide_eq_false q]; rfl)]
theorem spN_0 : spN B n 0 = tkS B n 0 := (sp_tk n 0 (Or.inr rfl)).symm
theorem spN_s {s : Nat} (hs1 : s < n) : spN B n (tkE B n s) = tkS B n (s + 1) := by
  obtain ⟨e1, e2⟩ := tkE_r (B := B) hs1
  unfold tkS spN
  rw [fiN_skip (tkE B n s - (s + 1)) (n - (s + 1)) (s + 1) (by omega) (fun z h1 h2 => by
    have := fiN_f (fun y => !goOn B y) (n - (s + 1)) (s + 1) z h1 (show z < tkE B n s by omega)
    have this : goOn B z = true := by simpa using this
    unfold isTk; rw [this]; exact Bool.and_false _), show n - (s + 1) - (tkE B n s - (s + 1)) = n - tkE B n s from by omega, show s + 1 + (tkE B n s - (s + 1)) = tkE B n s from by omega]
  refine (sp_tk _ _ ?_).symm
  by_cases q : tkE B n s < n
  · have := fiN_t (fun y => !goOn B y) (n - (s + 1)) (s + 1) (show tkE B n s < s + 1 + (n - (s + 1)) by omega)
    have this : (!goOn B (tkE B n s)) = true := this
    exact Or.inr (by simpa using this)
  · exact Or.inl (by omega)
theorem spN_n : spN B n n = n := by unfold spN; rw [Nat.sub_self]; rfl
theorem stq_n (i : Nat) : stq B n i ≤ n := by
  cases i with
  | zero => exact (tkS_r (Nat.zero_le _)).2
  | succ i =>
    show (if stq B n i < n then tkS B n (stq B n i + 1) else n) ≤ n
    by_cases q : stq B n i < n
    · rw [if_pos q]; exact (tkS_r (by omega)).2
    · rw [if_neg q]; exact Nat.le_refl _
theorem spN_q (i : Nat) : spN B n (enq B n i) = stq B n (i + 1) := by
  show _ = (if stq B n i < n then tkS B n (stq B n i + 1) else n)
  unfold enq
  by_cases q : stq B n i < n
  · rw [if_pos q, if_pos q]; exact spN_s q
  · rw [if_neg q, if_neg q]; exact spN_n
theorem pM_byteAt (hT : TpM S B n) {x : Nat} (hx : x ≤ n) : f_M_byteAt S (iN x) = some (if x < n then iN (B x) else -1, S) := by
  have h2 := hT.2.1
  unfold f_M_byteAt
  rw [hT.1]
  by_cases q : x < n
  · rw [if_neg (fun z => by have := (iN_le (by omega) (by omega)).mp z; omega), if_pos q, ck_of (iN_b (by omega) (by decide)), iN_c (by omega), (hT.2.2 x q).2]
  · rw [if_pos ((iN_le (by omega) (by omega)).mpr (by omega)), if_neg q]
def inL (x : Int32) : Bool := decide ((97 : Int32).toInt ≤ x.toInt ∧ x.toInt ≤ (122 : Int32).toInt)
def inD (x : Int32) : Bool := decide ((48 : Int32).toInt ≤ x.toInt ∧ x.toInt ≤ (57 : Int32).toInt)
theorem inLD : ∀ b, b < 256 → inL (iN b) = isLt b ∧ inD (iN b) = isDg b ∧ ((iN b = 32) ↔ b = 32) := by decide +kernel
theorem pM_isLetter (x : Int32) : f_M_isLetter S x = some (bI (inL x), S) := by
  unfold f_M_isLetter inL
  rw [pM_in, bd_s, ck_of (bI_B _)]
theorem pM_isDigit (x : Int32) : f_M_isDigit S x = some (bI (inD x), S) := by
  unfold f_M_isDigit inD
  rw [pM_in, bd_s, ck_of (bI_B _)]
def PmT (a i : Nat) : Prop := a = 191 ∧ (i = 6 ∨ i = 7 ∨ i = 8)
theorem TpM.fc {P : Nat → Nat → Prop} (h : TpM S B n) (f : Fc P S T) (q : ¬ P 191 5) (q2 : ∀ i, ¬ P 194 i) : TpM T B n := ⟨(f.1 191 5 q).trans h.1, h.2.1, fun i hi => ⟨(h.2.2 i hi).1, (f.1 194 i (q2 i)).trans (h.2.2 i hi).2⟩⟩
theorem nPm {a i : Nat} (h : ¬ (a = 191 ∧ (i = 6 ∨ i = 7 ∨ i = 8))) : ¬ PmT a i := h
theorem TpM.pm (h : TpM S B n) (f : Fc PmT S T) : TpM T B n := h.fc f (nPm (by omega)) (fun _ => nPm (by omega))
theorem nx8_l {K : hs → Option (Int32 × hs)} : ∀ (r p f : Nat) (T : hs), TpM T B n → gI T 191 6 = iN p → p + r = n → r < f → ∃ U, lp_M_next_8 K f T = K U ∧ Fc (fun a i => a = 191 ∧ i = 6) T U ∧ gI U 191 6 = iN (fiN (fun y => !decide (B y = 32)) r p) := by
  intro r
  induction r with
  | zero =>
    intro p f T hT h6 hp hf
    obtain ⟨f, rfl⟩ : ∃ q, f = q + 1 := ⟨f - 1, by omega⟩
    refine ⟨T, ?_, Fc.rfl', h6⟩
    rw [lp_M_next_8, h6, pM_byteAt hT (by omega), bd_s, if_neg (c := p < n) (by omega), if_neg (by decide)]
  | succ r ih =>
    intro p f T hT h6 hp hf
    obtain ⟨f, rfl⟩ : ∃ q, f = q + 1 := ⟨f - 1, by omega⟩
    have b1 := (hT.2.2 p (by omega)).1
    rw [lp_M_next_8, h6, pM_byteAt hT (by omega), bd_s, if_pos (c := p < n) (by omega), fiN]
    by_cases q : B p = 32
    · rw [if_pos ((inLD _ b1).2.2.mpr q), h6, iN_1, if_neg (by rw [decide_eq_true q]; decide)]
      have f1 : Fc (fun a i => a = 191 ∧ i = 6) T (uI T 191 6 (iN (p + 1))) := Fc.rfl'.uI ⟨rfl, rfl⟩
      obtain ⟨U, a1, a2, a3⟩ := ih (p + 1) f (uI T 191 6 (iN (p + 1))) (hT.fc f1 (by omega) (fun _ => by omega)) gI_us (by omega) (by omega)
      exact ⟨U, a1, f1.trans a2, a3⟩
    · rw [if_neg (fun z => q ((inLD _ b1).2.2.mp z)), if_pos (by rw [decide_eq_false q]; rfl)]
      exact ⟨T, rfl, Fc.rfl', h6⟩
theorem nx75_l : ∀ (r p f : Nat) (T : hs), TpM T B n → gI T 191 7 = iN p → p + r = n → r < f → ∃ U, lp_M_next_75 f T = some (0, U) ∧ Fc (fun a i => a = 191 ∧ i = 7) T U ∧ gI U 191 7 = iN (fiN (fun y => !isLt (B y)) r p) := by
  intro r
  induction r with
  | zero =>
    intro p f T hT h6 hp hf
    obtain ⟨f, rfl⟩ : ∃ q, f = q + 1 := ⟨f - 1, by omega⟩
    refine ⟨T, ?_, Fc.rfl', h6⟩
    rw [lp_M_next_75, h6, pM_byteAt hT (by omega), bd_s, if_neg (c := p < n) (by omega), pM_isLetter, bd_s, if_pos (by decide)]
  | succ r ih =>
    intro p f T hT h6 hp hf
    obtain ⟨f, rfl⟩ : ∃ q, f = q + 1 := ⟨f - 1, by omega⟩
    have b1 := (hT.2.2 p (by omega)).1
    rw [lp_M_next_75, h6, pM_byteAt hT (by omega), bd_s, if_pos (c := p < n) (by omega), pM_isLetter, bd_s, (inLD _ b1).1, if_bI, fiN]
    cases q : isLt (B p) with
    | true =>
      rw [bt_t, h6, iN_1, if_neg (by decide)]
      have f1 : Fc (fun a i => a = 191 ∧ i = 7) T (uI T 191 7 (iN (p + 1))) := Fc.rfl'.uI ⟨rfl, rfl⟩
      obtain ⟨U, a1, a2, a3⟩ := ih (p + 1) f (uI T 191 7 (iN (p + 1))) (hT.fc f1 (by omega) (fun _ => by omega)) gI_us (by omega) (by omega)
      exact ⟨U, a1, f1.trans a2, a3⟩
    | false =>
      rw [bt_f, if_pos (by decide)]
      exact ⟨T, rfl, Fc.rfl', h6⟩
theorem nx114_l : ∀ (r p f : Nat) (T : hs), TpM T B n → gI T 191 7 = iN p → p + r = n → r < f → ∃ U, lp_M_next_114 f T = some (0, U) ∧ Fc (fun a i => a = 191 ∧ i = 7) T U ∧ gI U 191 7 = iN (fiN (fun y => !isDg (B y)) r p) := by
  intro r
  induction r with
  | zero =>
    intro p f T hT h6 hp hf
    obtain ⟨f, rfl⟩ : ∃ q, f = q + 1 := ⟨f - 1, by omega⟩
    refine ⟨T, ?_, Fc.rfl', h6⟩
    rw [lp_M_next_114, h6, pM_byteAt hT (by omega), bd_s, if_neg (c := p < n) (by omega), pM_isDigit, bd_s, if_pos (by decide)]
  | succ r ih =>
    intro p f T hT h6 hp hf
    obtain ⟨f, rfl⟩ : ∃ q, f = q + 1 := ⟨f - 1, by omega⟩
    have b1 := (hT.2.2 p (by omega)).1
    rw [lp_M_next_114, h6, pM_byteAt hT (by omega), bd_s, if_pos (c := p < n) (by omega), pM_isDigit, bd_s, (inLD _ b1).2.1, if_bI, fiN]
    cases q : isDg (B p) with
    | true =>
      rw [bt_t, h6, iN_1, if_neg (by decide)]
      have f1 : Fc (fun a i => a = 191 ∧ i = 7) T (uI T 191 7 (iN (p + 1))) := Fc.rfl'.uI ⟨rfl, rfl⟩
      obtain ⟨U, a1, a2, a3⟩ := ih (p + 1) f (uI T 191 7 (iN (p + 1))) (hT.fc f1 (by omega) (fun _ => by omega)) gI_us (by omega) (by omega)
      exact ⟨U, a1, f1.trans a2, a3⟩
    | false =>
      rw [bt_f, if_pos (by decide)]
      exact ⟨T, rfl, Fc.rfl', h6⟩
theorem pM_next0 (hT : TpM S B n) {p : Nat} (hp : p ≤ n) (h7 : gI S 191 7 = iN p) : ∃ U, f_M_next S = some (0, U) ∧ Fc PmT S U ∧ gI U 191 6 = iN (spN B n p) ∧ gI U 191 7 = iN (if spN B n p < n then tkE B n (spN B n p) else n) ∧ gI U 191 8 = iN (if spN B n p < n then kdB (B (spN B n p)) else 0) := by
  have h2 := hT.2.1
  have f0 : Fc PmT S (uI S 191 6 (iN p)) := Fc.rfl'.uI ⟨rfl, Or.inl rfl⟩
  unfold f_M_next
  rw [h7]
  obtain ⟨V, a1, a2, a3⟩ := nx8_l (B := B) (n := n) (K := fun (S5 : hs)  => bd (f_M_byteAt  S5 (gI S5 191 6)) fun r6 S7 => (if 0 ≤ r6 then bd (f_M_isLetter  (uI S7 191 7 (gI S7 191 6)) r6) fun r10 S11 => (if r10 = 0 then bd (f_M_isDigit  S11 r6) fun r14 S15 => (if r14 = 0 then some ((0 : Int32), (uI (uI S15 191 8 (3 : Int32)) 191 7 ((gI (uI S15 191 8 (3 : Int32)) 191 7) + (1 : Int32)))) else lp_M_next_114  1000 (uI S15 191 8 (2 : Int32))) else lp_M_next_75  1000 (uI S11 191 8 (1 : Int32))) else some ((0 : Int32), (uI (uI S7 191 7 (gI S7 191 6)) 191 8 (0 : Int32))))) (n - p) p 1000 (uI S 191 6 (iN p)) (hT.pm f0) gI_us (by omega) (by omega)
  have a3 : gI V 191 6 = iN (spN B n p) := a3
  have fV : Fc PmT S V := f0.trans (a2.mono (fun a i z => ⟨z.1, Or.inl z.2⟩))
  have hV := hT.pm fV
  have sr := fiN_r (fun y => !decide (B y = 32)) (n - p) p
  have sle : spN B n p ≤ n := by unfold spN; omega
  generalize hs0 : spN B n p = s at a3 sle
  rw [a1]
  show ∃ U, (bd (f_M_byteAt V (gI V 191 6)) _) = _ ∧ _
  rw [a3, pM_byteAt hV sle, bd_s]
  by_cases q : s < n
  · have b1 := (hV.2.2 s q).1
    have f1 : Fc PmT V (uI V 191 7 (iN s)) := Fc.rfl'.uI ⟨rfl, Or.inr (Or.inl rfl)⟩
    rw [if_pos (c := s < n) q, if_pos (c := s < n) q, if_pos (c := s < n) q, if_pos (le_y tl0 (iN_i (by omega)) (by omega)), pM_isLetter, bd_s, (inLD _ b1).1, if_bI, a3, ← mE_e q]
    unfold mE kdB
    cases l1 : isLt (B s) with
    | true =>
      rw [bt_t, if_pos (show true = true from rfl), if_pos (show true = true from rfl)]
      have f2 : Fc PmT V (uI (uI V 191 7 (iN s)) 191 8 (1 : Int32)) := f1.uI ⟨rfl, Or.inr (Or.inr rfl)⟩
      obtain ⟨U, c1, c2, c3⟩ := nx75_l (B := B) (n := n) (n - s) s 1000 (uI (uI V 191 7 (iN s)) 191 8 (1 : Int32)) (hV.pm f2) (by rw [gI_un (by decide), gI_us]) (by omega) (by omega)
      exact ⟨U, c1, (fV.trans f2).trans (c2.mono (fun a i z => ⟨z.1, Or.inr (Or.inl z.2)⟩)), by rw [c2.1 191 6 (by omega), gI_un (by decide), gI_un (by decide)]; exact a3, c3, by rw [c2.1 191 8 (by omega), gI_us]; rfl⟩
    | false =>
      have ff : ¬ (false = true) := by decide
      rw [bt_f, if_neg ff, if_neg ff, pM_isDigit, bd_s, (inLD _ b1).2.1, if_bI]
      cases d1 : isDg (B s) with
      | true =>
        rw [bt_t, if_pos (show true = true from rfl), if_pos (show true = true from rfl)]
        have f2 : Fc PmT V (uI (uI V 191 7 (iN s)) 191 8 (2 : Int32)) := f1.uI ⟨rfl, Or.inr (Or.inr rfl)⟩
        obtain ⟨U, c1, c2, c3⟩ := nx114_l (B := B) (n := n) (n - s) s 1000 (uI (uI V 191 7 (iN s)) 191 8 (2 : Int32)) (hV.pm f2) (by rw [gI_un (by decide), gI_us]) (by omega) (by omega)
        exact ⟨U, c1, (fV.trans f2).trans (c2.mono (fun a i z => ⟨z.1, Or.inr (Or.inl z.2)⟩)), by rw [c2.1 191 6 (by omega), gI_un (by decide), gI_un (by decide)]; exact a3, c3, by rw [c2.1 191 8 (by omega), gI_us]; rfl⟩
      | false =>
        rw [bt_f, if_neg ff, if_neg ff, gI_un (by decide), gI_us, iN_1]
        exact ⟨_, rfl, ((fV.trans f1).uI ⟨rfl, Or.inr (Or.inr rfl)⟩).uI ⟨rfl, Or.inr (Or.inl rfl)⟩, by rw [gI_un (by decide), gI_un (by decide), gI_un (by decide)]; exact a3, gI_us, by rw [gI_un (by decide), gI_us]; rfl⟩
  · rw [if_neg (c := s < n) q, if_neg (c := s < n) q, if_neg (c := s < n) q, if_neg (by decide), a3]
    have sn : s = n := by omega
    exact ⟨_, rfl, (fV.uI ⟨rfl, Or.inr (Or.inl rfl)⟩).uI ⟨rfl, Or.inr (Or.inr rfl)⟩, by rw [gI_un (by decide), gI_un (by decide)]; exact a3, by rw [gI_un (by decide), gI_us, sn], gI_us⟩
theorem pM_next (hT : TpM S B n) {i : Nat} (h : TkM S B n i) : ∃ U, f_M_next S = some (0, U) ∧ Fc PmT S U ∧ TkM U B n (i + 1) := by
  have e : enq B n i ≤ n := by
    unfold enq
    by_cases q : stq B n i < n
    · rw [if_pos q]; exact (tkE_r q).2
    · rw [if_neg q]; exact Nat.le_refl _
  obtain ⟨U, a1, a2, a3, a4, a5⟩ := pM_next0 hT e h.2.1
  rw [spN_q] at a3 a4 a5
  exact ⟨U, a1, a2, a3, a4, a5⟩
theorem pM_nextF (hT : TpM S B n) (h : gI S 191 7 = 0) : ∃ U, f_M_next S = some (0, U) ∧ Fc PmT S U ∧ TkM U B n 0 := by
  obtain ⟨U, a1, a2, a3, a4, a5⟩ := pM_next0 hT (Nat.zero_le _) h
  rw [spN_0] at a3 a4 a5
  exact ⟨U, a1, a2, a3, a4, a5⟩
end
