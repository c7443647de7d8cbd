/-! Reading on both sides: how it ends. -/
def RdC (B : Nat → Nat) (n N i : Nat) (fc : hs → Option (Int32 × hs)) (ok : Bool) (i' : Nat) (Lc : List (Int32 × Int32 × Int32)) : Prop := ∀ S L, CP S B n N i L → 2 * L.length ≤ stq B n i → ∃ U L', fc S = some (bI ok, U) ∧ Fc PcL S U ∧ CP U B n N i' L' ∧ (ok = true → L' = L ++ Lc ∧ 2 * L'.length ≤ stq B n i')
def PmD (a i : Nat) : Prop := PmL a i ∨ (a = 191 ∧ i = 10)
def RdM (B : Nat → Nat) (n d i : Nat) (fm : hs → Option (Int32 × hs)) (ok : Bool) (i' : Nat) (Lm : List Int32) : Prop := ∀ S C, MP S B n i 0 C → gI S 191 10 = iN d → C.length + 3 ≤ stq B n i → ∃ U C', fm S = some (0, U) ∧ Fc PmD S U ∧ gI U 191 10 = iN d ∧ MP U B n i' (bif ok then 0 else 1) C' ∧ (ok = true → C' = C ++ Lm ∧ C'.length + 3 ≤ stq B n i')
/-- both read from token i on: the same end, and what they laid pushes the same -/
def Rd (B : Nat → Nat) (n N d i b q : Nat) (fc fm : hs → Option (Int32 × hs)) : Prop := ∃ (ok : Bool) (i' : Nat) (Lc : List (Int32 × Int32 × Int32)) (Lm : List Int32), RdC B n N i fc ok i' Lc ∧ RdM B n d i fm ok i' Lm ∧ (ok = true → stq B n i ≤ stq B n i' ∧ i < i' ∧ i' ≤ N ∧ ∃ v, PushC b Lc v ∧ PushM q Lm v ∧ Dep6 v)
section
variable {B : Nat → Nat} {n N : Nat}
theorem cmO_v {t : Nat → Int32} {i op : Nat} (h : cmO t i = some op) : t i < (20000 : Int32) ∧ t (i + 2) < (20000 : Int32) ∧ op ≤ 2 := by
  unfold cmO at h
  split at h
  · rename_i q1
    split at h
    · split at h
      · rename_i q2; cases h; exact ⟨q1, q2, by omega⟩
      · cases h
    · split at h
      · split at h
        · rename_i q2; cases h; exact ⟨q1, q2, by omega⟩
        · cases h
      · split at h
        · split at h
          · rename_i q2; cases h; exact ⟨q1, q2, by omega⟩
          · cases h
        · cases h
  · cases h
theorem rd_comp (hB : ∀ j, j < n → B j < 256) (hn : n ≤ 200) {d i : Nat} (hg : ∀ op, cmO (tkc B n) i = some op → i + 3 ≤ N ∧ stq B n i + 3 ≤ stq B n (i + 3)) : Rd B n N d i 64 2 f_R_readComparison (fun S => bd (f_M_value S) fun _ S11 => mcT S11) := by
  have sn := stq_n (B := B) (n := n) i
  cases hc : cmO (tkc B n) i with
  | some op =>
    obtain ⟨v1, v2, v3⟩ := cmO_v hc
    obtain ⟨g1, g2⟩ := hg op hc
    refine ⟨true, i + 3, [(iN op, tkc B n i, tkc B n (i + 2))], [tkc B n i, tkc B n (i + 2), iN (20002 + op)], fun S L h hL => ?_, fun S C h hd hl => ?_, fun _ => ⟨by omega, by omega, g1, _, PushC.cmp v3 _ _, PushM.cmp v3 (vOk_of hB v1) (vOk_of hB v2), Dep6.cmp _ _ _⟩⟩
    · obtain ⟨-, -, U, a1, a2, a3⟩ := (pR_comp h hL).1 op hc
      refine ⟨U, _, a1, a2, a3, fun _ => ⟨rfl, ?_⟩⟩
      rw [List.length_append]
      show 2 * (L.length + 1) ≤ _
      omega
    · obtain ⟨U, a1, a2, a3⟩ := (pM_comp h (by omega)).1 op hc
      have e : C ++ [tkc B n i] ++ [tkc B n (i + 2)] ++ [iN (20002 + op)] = C ++ [tkc B n i, tkc B n (i + 2), iN (20002 + op)] := by simp
      refine ⟨U, _, a1, a2.mono (fun a i z => Or.inl z), (a2.1 191 10 (nPl (by omega))).trans hd, a3, fun _ => ⟨e, ?_⟩⟩
      rw [e, List.length_append]
      show C.length + 3 + 3 ≤ _
      omega
  | none =>
    refine ⟨false, cmF (tkc B n) i, [], [], fun S L h hL => ?_, fun S C h hd hl => ?_, fun z => by cases z⟩
    · obtain ⟨U, a1, a2, a3⟩ := (pR_comp h hL).2 hc
      exact ⟨U, L, a1, a2, a3, fun z => by cases z⟩
    · obtain ⟨U, C', a1, a2, a3⟩ := (pM_comp h (by omega)).2 hc
      exact ⟨U, C', a1, a2.mono (fun a i z => Or.inl z), (a2.1 191 10 (nPl (by omega))).trans hd, a3, fun z => by cases z⟩
end
