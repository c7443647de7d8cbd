/-! The state of things at the law's first call. -/
section
variable {xs : Nat → Int32} {S : hs}
theorem eS_o {a i : Nat} (h : a ≠ 33 ∧ a ≠ 160 ∧ a ≠ 191 ∧ a ≠ 207) : gI (eS S) a i = gI S a i := by
  unfold eS S_M_init S_X_init S_H_init
  rw [gI_ua (by omega), gI_ua (by omega), gI_ua (by omega), gI_ua (by omega), gI_ua (by omega), gI_ua (by omega), gI_ua (by omega), gI_ua (by omega), gI_ua (by omega), gI_ua (by omega), gI_ua (by omega)]
theorem eS_33 {i : Nat} (h : gI S 33 i = 0) : gI (eS S) 33 i = 0 := by
  unfold eS S_M_init S_X_init S_H_init
  rw [gI_ua (by omega), gI_ua (by omega), gI_ua (by omega), gI_ua (by omega), gI_ua (by omega), gI_u]
  split
  · rfl
  · rw [gI_u]
    split
    · rfl
    · rw [gI_ua (by omega), gI_ua (by omega), gI_ua (by omega), gI_ua (by omega)]; exact h
theorem eS_191 {i : Nat} (h : gI S 191 i = 0) : gI (eS S) 191 i = if i = 3 then -1 else 0 := by
  unfold eS S_M_init S_X_init S_H_init
  rw [gI_ua (by omega), gI_ua (by omega), gI_ua (by omega), gI_ua (by omega), gI_u, gI_ua (by omega), gI_ua (by omega), gI_ua (by omega), gI_ua (by omega), gI_ua (by omega), gI_ua (by omega), h]
  by_cases q : i = 3
  · rw [if_pos ⟨rfl, q⟩, if_pos q]
  · rw [if_neg (fun z => q z.2), if_neg q]
theorem eS_160 {i : Nat} (h : i < 4) : gI (eS S) 160 i = -1 := by
  unfold eS S_M_init S_X_init S_H_init
  rw [gI_ua (by omega), gI_ua (by omega), gI_ua (by omega), gI_ua (by omega), gI_ua (by omega), gI_ua (by omega), gI_ua (by omega)]
  match i, h with
  | 0, _ => rw [gI_un (by omega), gI_un (by omega), gI_un (by omega), gI_us]
  | 1, _ => rw [gI_un (by omega), gI_un (by omega), gI_us]
  | 2, _ => rw [gI_un (by omega), gI_us]
  | 3, _ => rw [gI_us]
theorem eS_207 {i : Nat} (h : i < 4) : gI (eS S) 207 i = -1 := by
  unfold eS S_M_init
  match i, h with
  | 0, _ => rw [gI_un (by omega), gI_un (by omega), gI_un (by omega), gI_us]
  | 1, _ => rw [gI_un (by omega), gI_un (by omega), gI_us]
  | 2, _ => rw [gI_un (by omega), gI_us]
  | 3, _ => rw [gI_us]
theorem s0_0 {a i : Nat} (h : 33 ≤ a) : gI (s0 xs) a i = 0 := by
  show (if a < 16 then (0 : Int32) else if a < 32 then (sBy.getD (a - 16) []).getD i 0 else if a = 32 then xs i else 0) = 0
  rw [if_neg (by omega), if_neg (by omega), if_neg (by omega)]
theorem e0 {a i : Nat} (h : 33 ≤ a ∧ a ≠ 33 ∧ a ≠ 160 ∧ a ≠ 191 ∧ a ≠ 207) : gI (eS (s0 xs)) a i = 0 := (eS_o h.2).trans (s0_0 h.1)
def mz : Nat → Int32 := fun _ => 0
theorem VM_z : VM mz := ⟨⟨rfl, by decide⟩, ⟨rfl, by decide⟩, ⟨rfl, by decide⟩, ⟨rfl, by decide⟩, fun i h => absurd h (Nat.not_lt_zero i), fun i j h => absurd h (Nat.not_lt_zero i), fun i h => absurd h (Nat.not_lt_zero i), fun i h => absurd h (Nat.not_lt_zero i)⟩
theorem Iv2_z {L : Nat} {tk : Nat → Nat} : Iv2 (0, L, tk, none) (eS (s0 xs)) := by
  refine ⟨⟨⟨mz, (0, fun _ => 0, fun _ _ => true), ?_, ?_, ?_, ?_⟩, ?_, ?_, ?_, ?_, ?_, ?_, ?_, ?_⟩, fun j hj => absurd hj (Nat.not_lt_zero j)⟩
  · exact ⟨VM_z, e0 (by omega), e0 (by omega), e0 (by omega), e0 (by omega), fun i h => absurd h (Nat.not_lt_zero i), fun i h => absurd h (Nat.not_lt_zero i), fun i h => absurd h (Nat.not_lt_zero i)⟩
  · exact ⟨VM_z, fun i _ => e0 (by omega)⟩
  · exact ⟨e0 (by omega), by decide, fun i h => absurd h (Nat.not_lt_zero i)⟩
  · exact ⟨rfl, by decide, fun i h => absurd h (Nat.not_lt_zero i)⟩
  · have h1 : gI (eS (s0 xs)) 33 7 = 0 := eS_33 (s0_0 (by omega))
    have h2 : gI (eS (s0 xs)) 191 2 = 0 := (eS_191 (s0_0 (by omega))).trans (if_neg (by decide))
    exact ⟨h1.trans h2.symm, Or.inl h2⟩
  · exact ⟨0, by decide, eS_33 (s0_0 (by omega)), (eS_191 (s0_0 (by omega))).trans (if_neg (by decide)), fun i h => absurd h (Nat.not_lt_zero i)⟩
  · exact ⟨0, by decide, e0 (by omega), (eS_191 (s0_0 (by omega))).trans (if_neg (by decide)), fun i h => absurd h (Nat.not_lt_zero i)⟩
  · intro s h4
    have a1 : gI (eS (s0 xs)) 160 s = -1 := eS_160 h4
    have a2 : gI (eS (s0 xs)) 207 s = -1 := eS_207 h4
    have a3 : gI (eS (s0 xs)) 161 s = 0 := e0 (by omega)
    have a4 : gI (eS (s0 xs)) 208 s = 0 := e0 (by omega)
    rw [a1, a2, a3, a4]
    refine ⟨rfl, rfl, by decide, by decide, fun i _ => ?_⟩
    rw [e0 (by omega)]
    rfl
  · intro s h4
    have a1 : gI (eS (s0 xs)) 167 s = 0 := e0 (by omega)
    have a2 : gI (eS (s0 xs)) 209 s = 0 := e0 (by omega)
    exact ⟨a1.trans a2.symm, Or.inl a2⟩
  · exact Or.inl ⟨rfl, (eS_191 (s0_0 (by omega))).trans (if_neg (by decide))⟩
  · intro i hi j hj
    rw [eS_o (by omega)]
    show (if 16 + i < 16 then (0 : Int32) else if 16 + i < 32 then (sBy.getD (16 + i - 16) []).getD j 0 else if 16 + i = 32 then xs j else 0) = _
    rw [if_neg (by omega), if_pos (by omega), Nat.add_sub_cancel_left]
    rfl
  · exact (eS_191 (s0_0 (by omega))).trans (if_pos rfl)
end
