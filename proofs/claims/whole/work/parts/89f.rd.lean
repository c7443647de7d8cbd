/-! Reading on both sides: how it ends. -/
def RdC (B : Nat → Nat) (n N i pb : Nat) (fc : hs → Option (Int32 × hs)) (ok : Bool) (i' : Nat) (Lc : List (Int32 × Int32 × Int32)) : Prop := ∀ S L, CP S B n N i L → 2 * L.length + pb ≤ stq B n i → ∃ U L', fc S = some (bI ok, U) ∧ Fc PcL S U ∧ CP U B n N i' L' ∧ (ok = true → L' = L ++ Lc)
def PmD (a i : Nat) : Prop := PmL a i ∨ (a = 191 ∧ i = 10)
def RdM (B : Nat → Nat) (n d i : Nat) (fm : hs → Option (Int32 × hs)) (ok : Bool) (i' : Nat) (Lm : List Int32) : Prop := ∀ S C, MP S B n i 0 C → gI S 191 10 = iN d → C.length + 3 ≤ stq B n i → ∃ U C', fm S = some (0, U) ∧ Fc PmD S U ∧ gI U 191 10 = iN d ∧ MP U B n i' (bif ok then 0 else 1) C' ∧ (ok = true → C' = C ++ Lm)
/-- both read from token i on: the same end, and of what they laid G holds -/
def RdG (B : Nat → Nat) (n N d i pb : Nat) (fc fm : hs → Option (Int32 × hs)) (G : List (Int32 × Int32 × Int32) → List Int32 → Prop) : Prop := ∃ (ok : Bool) (i' : Nat) (Lc : List (Int32 × Int32 × Int32)) (Lm : List Int32), RdC B n N i pb fc ok i' Lc ∧ RdM B n d i fm ok i' Lm ∧ (ok = true → 2 * Lc.length + stq B n i ≤ stq B n i' + pb ∧ Lm.length + stq B n i ≤ stq B n i' ∧ i ≤ i' ∧ i' ≤ N ∧ G Lc Lm)
def GvO (b q : Nat) (Lc : List (Int32 × Int32 × Int32)) (Lm : List Int32) : Prop := ∃ v, PushC b Lc v ∧ PushM q Lm v ∧ Dep6 v
def GvP (p : Bool) (b q : Nat) (Lc : List (Int32 × Int32 × Int32)) (Lm : List Int32) : Prop := ∃ v : (Nat → Int32) → Bool, PushC b Lc (fun f => p ^^ v f) ∧ PushM q Lm v ∧ Dep6 v
def GvL (b q : Nat) (Lc : List (Int32 × Int32 × Int32)) (Lm : List Int32) : Prop := ∀ Lc0 Lm0 v0, PushC b Lc0 v0 → PushM q Lm0 v0 → Dep6 v0 → ∃ v, PushC b (Lc0 ++ Lc) v ∧ PushM q (Lm0 ++ Lm) v ∧ Dep6 v
def pbB (p : Bool) : Nat := bif p then 2 else 0
/-- the tokens, purely -/
def TN (B : Nat → Nat) (n N : Nat) : Prop := n ≤ 200 ∧ N ≤ n ∧ stq B n N = n ∧ (∀ j, j < N → stq B n j < n) ∧ ∀ j, j < n → B j < 256
theorem nPd {a i : Nat} (h : ¬ (a = 191 ∧ (i = 6 ∨ i = 7 ∨ i = 8 ∨ i = 9 ∨ i = 10 ∨ i = 12)) ∧ a ≠ 195) : ¬ PmD a i := fun z => by unfold PmD PmL at z; omega
theorem pmD : ∀ a i, PmL a i → PmD a i := fun _ _ z => Or.inl z
theorem PushM.mono {q q' : Nat} {L : List Int32} {v : (Nat → Int32) → Bool} (h : PushM q L v) (hq : q ≤ q') : PushM q' L v := fun T m a b w e f p hh K hT ha hb hp he hl hc => h T m a b w e f p hh K hT ha hb hp he (by omega) hc
theorem GvO.mono {b q b' q' : Nat} {Lc : List (Int32 × Int32 × Int32)} {Lm : List Int32} (h : GvO b q Lc Lm) (hb : b' ≤ b) (hq : q ≤ q') : GvO b' q' Lc Lm := by
  obtain ⟨v, h1, h2, h3⟩ := h
  exact ⟨v, h1.mono hb, h2.mono hq, h3⟩
section
variable {B : Nat → Nat} {n N : Nat} {S : hs}
theorem RdG.mono {d i pb : Nat} {fc fm : hs → Option (Int32 × hs)} {G G' : List (Int32 × Int32 × Int32) → List Int32 → Prop} (h : RdG B n N d i pb fc fm G) (hg : ∀ Lc Lm, G Lc Lm → G' Lc Lm) : RdG B n N d i pb fc fm G' := by
  obtain ⟨ok, i', Lc, Lm, h1, h2, h3⟩ := h
  exact ⟨ok, i', Lc, Lm, h1, h2, fun z => ⟨(h3 z).1, (h3 z).2.1, (h3 z).2.2.1, (h3 z).2.2.2.1, hg _ _ (h3 z).2.2.2.2⟩⟩
theorem RdG.congr {d i pb : Nat} {fc fm fc' fm' : hs → Option (Int32 × hs)} {G : List (Int32 × Int32 × Int32) → List Int32 → Prop} (h : RdG B n N d i pb fc fm G) (ec : ∀ S L, CP S B n N i L → fc' S = fc S) (em : ∀ S C, MP S B n i 0 C → gI S 191 10 = iN d → fm' S = fm S) : RdG B n N d i pb fc' fm' G := by
  obtain ⟨ok, i', Lc, Lm, h1, h2, h3⟩ := h
  refine ⟨ok, i', Lc, Lm, fun S L hS hL => ?_, fun S C hS hd hl => ?_, h3⟩
  · rw [ec S L hS]; exact h1 S L hS hL
  · rw [em S C hS hd]; exact h2 S C hS hd hl
theorem tk_in {i : Nat} (h : tkc B n i ≠ 20000) : stq B n i < n := by
  rcases Nat.lt_or_ge (stq B n i) n with q | q
  · exact q
  · exact absurd (if_neg (by omega)) h
theorem TN.lt (h : TN B n N) {i : Nat} (hi : i ≤ N) (q : tkc B n i ≠ 20000) : i < N ∧ stq B n i < n ∧ stq B n i + 1 ≤ stq B n (i + 1) := by
  have s := tk_in q
  have := stq_len s
  refine ⟨?_, s, by omega⟩
  rcases Nat.lt_or_ge i N with z | z
  · exact z
  · obtain rfl : i = N := by omega
    have := h.2.2.1
    omega
theorem TN.end (h : TN B n N) : tkc B n N = 20000 := if_neg (by have := h.2.2.1; omega)
/-- a word has its letters -/
theorem tk_wl (hB : ∀ j, j < n → B j < 256) {a i : Nat} (ha : a < 16) (h : tkc B n i = wdC a) : stq B n i + tLen a ≤ stq B n (i + 1) := by
  obtain ⟨w1, w2, w3, w4⟩ := wdC_n a (by omega)
  rcases tk_cases (B := B) (n := n) i with ⟨c1, c2, c3⟩ | ⟨c1, c2, c3, c4⟩ | ⟨c1, c2, c3, c4⟩ | ⟨c1, c2, c3, c4, c5⟩
  · exact absurd (h.symm.trans c3) w4
  · have e := wdF_w (B := B) (x := stq B n i) (e := enq B n i) ha
    rw [decide_eq_true (c4.symm.trans h)] at e
    unfold wdM at e
    rw [Bool.and_eq_true, decide_eq_true_eq] at e
    have := stq_len c1
    omega
  · rcases c4 with ⟨d1, d2, d3⟩ | ⟨d1, d2⟩
    · rw [d3, w1] at h
      have := (iN_eq (by omega) (by omega)).mp h
      omega
    · rw [d2] at h
      have := wdC_i 16 (by omega) a (by omega) h
      omega
  · have hb := hB _ c1
    rw [c5, w1] at h
    have := (iN_eq (by omega) (by omega)).mp h
    omega
/-- a step more, or none if there is no room -/
theorem pA_addStepX {i : Nat} {L : List (Int32 × Int32 × Int32)} (h : CP S B n N i L) (a b c : Int32) : ∃ U L', f_A_addStep_129 S a b c = some (0, U) ∧ Fc PcL S U ∧ CP U B n N i L' ∧ (L.length < 100 → L' = L ++ [(a, b, c)]) := by
  rcases Nat.lt_or_ge L.length 100 with q | q
  · obtain ⟨U, a1, a2, a3⟩ := pA_addStep h q a b c
    exact ⟨U, _, a1, a2.mono pcS, a3, fun _ => rfl⟩
  · refine ⟨S, L, ?_, Fc.rfl', h, fun z => by omega⟩
    have h7 := h.2.2.2.2.2.2.1
    unfold f_A_addStep_129
    rw [h.2.2.2.2.2.1, if_pos (le_y (a := 100) rfl (iN_i (by omega)) (by omega))]
theorem cmO_v {t : Nat → Int32} {i op : Nat} (h : cmO t i = some op) : t i < (20000 : Int32) ∧ t (i + 2) < (20000 : Int32) ∧ op ≤ 2 ∧ t (i + 1) = iN (20160 + op) := by
  unfold cmO at h
  split at h
  · rename_i q1
    split at h
    · rename_i q3
      split at h
      · rename_i q2; cases h; exact ⟨q1, q2, by omega, q3⟩
      · cases h
    · split at h
      · rename_i q3
        split at h
        · rename_i q2; cases h; exact ⟨q1, q2, by omega, q3⟩
        · cases h
      · split at h
        · rename_i q3
          split at h
          · rename_i q2; cases h; exact ⟨q1, q2, by omega, q3⟩
          · cases h
        · cases h
  · cases h
theorem rd_comp (hN : TN B n N) {d i : Nat} (hi : i ≤ N) : RdG B n N d i 0 f_R_readComparison (fun S => bd (f_M_value S) fun _ S11 => mcT S11) (GvO 64 2) := by
  have sn := stq_n (B := B) (n := n) i
  have hn := hN.1
  have hB := hN.2.2.2.2
  cases hc : cmO (tkc B n) i with
  | some op =>
    obtain ⟨v1, v2, v3, v4⟩ := cmO_v hc
    obtain ⟨l1, -, l2⟩ := hN.lt hi (v_ne v1)
    obtain ⟨m1, -, m2⟩ := hN.lt (i := i + 1) (by omega) (by rw [v4]; exact eq_i (b := 20000) (by omega) (by decide) (by omega))
    obtain ⟨k1, -, k2⟩ := hN.lt (i := i + 2) (by omega) (v_ne v2)
    have m2 : stq B n (i + 1) + 1 ≤ stq B n (i + 2) := m2
    have k2 : stq B n (i + 2) + 1 ≤ stq B n (i + 3) := k2
    refine ⟨true, i + 3, [(iN op, tkc B n i, tkc B n (i + 2))], [tkc B n i, tkc B n (i + 2), iN (20002 + op)], fun S L h hL => ?_, fun S C h hd hl => ?_, fun _ => ⟨by show 2 * 1 + _ ≤ _; omega, by show 3 + _ ≤ _; omega, by omega, by omega, _, PushC.cmp v3 _ _, PushM.cmp v3 (vOk_of hB v1) (vOk_of hB v2), Dep6.cmp _ _ _⟩⟩
    · obtain ⟨-, -, U, a1, a2, a3⟩ := (pR_comp h hL).1 op hc
      exact ⟨U, _, a1, a2, a3, fun _ => rfl⟩
    · obtain ⟨U, a1, a2, a3⟩ := (pM_comp h (by omega)).1 op hc
      have e : C ++ [tkc B n i] ++ [tkc B n (i + 2)] ++ [iN (20002 + op)] = C ++ [tkc B n i, tkc B n (i + 2), iN (20002 + op)] := by simp
      exact ⟨U, _, a1, a2.mono pmD, (a2.1 191 10 (nPl (by omega))).trans hd, a3, fun _ => e⟩
  | none =>
    refine ⟨false, cmF (tkc B n) i, [], [], fun S L h hL => ?_, fun S C h hd hl => ?_, fun z => by cases z⟩
    · obtain ⟨U, a1, a2, a3⟩ := (pR_comp h hL).2 hc
      exact ⟨U, L, a1, a2, a3, fun z => by cases z⟩
    · obtain ⟨U, C', a1, a2, a3⟩ := (pM_comp h (by omega)).2 hc
      exact ⟨U, C', a1, a2.mono pmD, (a2.1 191 10 (nPl (by omega))).trans hd, a3, fun z => by cases z⟩
end
