/-! The things: where they lie, and what their methods do. -/
def bg (S : hs) (t : Nat) (x : Int32) : hs := if (30 : Int32) ≤ gI S t 3 then S else uI (uI S (t + 1) (gI S t 3).toNatClampNeg x) t 3 (gI S t 3 + (1 : Int32))
def bgs (S : hs) (t : Nat) (l : List Int32) : hs := l.foldl (fun S x => bg S t x) S
def Ok3 (S : hs) (t : Nat) : Prop := ∃ k, k ≤ 30 ∧ gI S t 3 = iN k
def Tg (c : cx) (t ci : Nat) : Prop := ∃ j, t = 213 + 2 * j ∧ j < c.1 ∧ c.2.2.1 t = ci ∧ 6 ≤ ci ∧ ci ≤ 10
theorem bg_i {S : hs} {t i : Nat} {x : Int32} (hi : i ≠ 3) : gI (bg S t x) t i = gI S t i := by
  unfold bg
  split
  · rfl
  · rw [gI_un hi, gI_ua (by omega)]
theorem bgs_i {t i : Nat} (hi : i ≠ 3) : ∀ (l : List Int32) (S : hs), gI (bgs S t l) t i = gI S t i
  | [], _ => rfl
  | x :: l, S => (bgs_i hi l (bg S t x)).trans (bg_i hi)
theorem bgs_0 {S : hs} {t : Nat} {l : List Int32} : gI (bgs S t l) t 0 = gI S t 0 := bgs_i (by decide) l S
theorem bgs_1 {S : hs} {t : Nat} {l : List Int32} : gI (bgs S t l) t 1 = gI S t 1 := bgs_i (by decide) l S
theorem Ok3.b1 {S : hs} {t : Nat} {x : Int32} (h : Ok3 S t) : Ok3 (bg S t x) t := by
  obtain ⟨k, h1, h2⟩ := h
  unfold bg
  by_cases q : (30 : Int32) ≤ gI S t 3
  · rw [if_pos q]; exact ⟨k, h1, h2⟩
  · rw [if_neg q]
    rw [h2] at q
    have : ¬ 30 ≤ k := fun z => q (le_y (a := 30) rfl (iN_i (by omega)) (by omega))
    exact ⟨k + 1, by omega, by rw [gI_us, h2, iN_1]⟩
theorem Ok3.bgs {t : Nat} : ∀ (l : List Int32) {S : hs}, Ok3 S t → Ok3 (bgs S t l) t
  | [], _, h => h
  | _ :: l, _, h => Ok3.bgs l h.b1
theorem mk_le (c : cx) (S1 S2 : hs) : hN (mk c S1) ≤ hN (mk c S2) ∧ hZ (mk c S1) ≤ hZ (mk c S2) := ⟨Nat.le_refl _, Nat.le_refl _⟩
theorem bgs_app {S : hs} {t : Nat} {l1 l2 : List Int32} : bgs (bgs S t l1) t l2 = bgs S t (l1 ++ l2) := List.foldl_append.symm
theorem nblt {a b : Nat} (h : b ≤ a) : Nat.blt a b = false := by
  cases hb : Nat.blt a b with
  | true => exact absurd (blt_e hb) (by omega)
  | false => rfl
section
variable {c : cx} {S : hs} {t ci : Nat}
theorem Tg.K (h : Tg c t ci) : K0 c t = (ci, 4) := by
  obtain ⟨j, rfl, hj, rfl, -⟩ := h
  unfold K0
  rw [nblt (by omega), show (213 + 2 * j) % 2 = 1 from by omega]; rfl
theorem Tg.K1 (h : Tg c t ci) : K0 c (t + 1) = (20, 30) := by
  obtain ⟨j, rfl, hj, rfl, -⟩ := h
  unfold K0
  rw [nblt (by omega), show (213 + 2 * j + 1) % 2 = 0 from by omega]; rfl
theorem Tg.R (h : Tg c t ci) : R0 c t 2 = some (t + 1) := by
  obtain ⟨j, rfl, hj, rfl, -⟩ := h
  unfold R0
  rw [nblt (by omega), show (213 + 2 * j) % 2 = 1 from by omega]; rfl
theorem Tg.lt (h : Tg c t ci) : 213 ≤ t ∧ t + 1 < 213 + 2 * c.1 := by
  obtain ⟨j, rfl, hj, -⟩ := h
  omega
theorem Tg.five (h : Tg c t ci) : ci = 6 ∨ ci = 7 ∨ ci = 8 ∨ ci = 9 ∨ ci = 10 := by
  obtain ⟨j, -, -, -, h1, h2⟩ := h
  omega
theorem okO_t (h : Tg c t ci) : okO (mk c S) t 12 := by
  have := h.lt
  have hc := h.five
  refine ⟨by omega, (show t < 213 + 2 * c.1 by omega), ?_, ?_⟩
  · show (K0 c t).1 < 12; rw [h.K]; show ci < 12; omega
  · show subC (K0 c t).1 12 = true; rw [h.K]
    rcases hc with rfl | rfl | rfl | rfl | rfl <;> decide
theorem isC_t (h : Tg c t ci) : isC (mk c S) t (cN ci) := by
  have := h.lt
  have hc := h.five
  refine Or.inl ⟨by omega, (show t < 213 + 2 * c.1 by omega), ?_, ?_⟩
  · show (K0 c t).1 < 12; rw [h.K]; show ci < 12; omega
  · show cN (K0 c t).1 = _; rw [h.K]
theorem okB_t (h : Tg c t ci) {i : Int32} (hi : inb i 30 = true) : okB (mk c S) (t + 1) 20 i := by
  have := h.lt
  refine ⟨by omega, (show t + 1 < 213 + 2 * c.1 by omega), ?_, ?_⟩
  · show (K0 c (t + 1)).1 = 20; rw [h.K1]
  · show vp_in i (K0 c (t + 1)).2; rw [h.K1]; exact inb_in hi
theorem okA_t (h : Tg c t ci) {i : Int32} (hi : inb i 30 = true) : okA (mk c S) (t + 1) 20 i := by
  obtain ⟨h1, h2, h3, h4⟩ := okB_t (S := S) h hi
  exact ⟨by omega, h2, h3, h4⟩
theorem hR_t (h : Tg c t ci) : hR (mk c S) t 2 = some (t + 1) := h.R
end
def mTu (ci : Nat) : Mt := if ci = 6 then m_G1_turns else if ci = 8 then m_G3_turns else m_G_turns
def mGo (ci : Nat) : Mt := if ci = 7 then m_G2_goes else if ci = 8 then m_G2_goes else if ci = 10 then m_G5_goes else m_G_goes
def mSe (ci : Nat) : Mt := if ci = 9 then m_G4_sees else if ci = 10 then m_G5_sees else m_G_sees
def mTe (ci : Nat) : Mt := if ci = 8 then m_G3_tells else m_G_tells
def vTu (ci : Nat) (n a x : Int32) : Int32 := if ci = 6 then (x + a) * (3 : Int32) else if ci = 8 then (x + a) ^^^ n else x + a
def bTu (ci : Nat) : List Int32 := if ci = 6 then [20, 10] else if ci = 8 then [50, 10] else [10]
def vGo (ci : Nat) (n a x : Int32) : Int32 := if ci = 7 then vTu ci n a x * (2 : Int32) - a else if ci = 8 then vTu ci n a x * (2 : Int32) - a else if ci = 10 then (0 : Int32) - vTu ci n a x * (2 : Int32) else vTu ci n a x * (2 : Int32)
def bGo (ci : Nat) : List Int32 := if ci = 7 then 30 :: 11 :: bTu ci else if ci = 8 then 30 :: 11 :: bTu ci else if ci = 10 then 60 :: 11 :: bTu ci else 11 :: bTu ci
def vS0 (n a x : Int32) : Int32 := if a - n = 0 then -15 else x / (a - n)
def vSe (ci : Nat) (n a x : Int32) : Int32 := if ci = 9 then vS0 n a (x + (1 : Int32)) else if ci = 10 then vS0 n a (x + (1 : Int32)) + (n + a) else vS0 n a x
def bSe (ci : Nat) : List Int32 := if ci = 9 then [40, 12] else if ci = 10 then [61, 40, 12, 10] else [12]
def vTe (ci : Nat) (n a x : Int32) : Int32 := if ci = 8 then (vGo ci n a x ^^^ n) + vS0 n a n else vGo ci n a x ^^^ n
def bTe (ci : Nat) : List Int32 := if ci = 8 then [51, 13, 30, 11, 50, 10, 12] else 13 :: bGo ci
theorem lu_G_25 {ci : Nat} (h : ci = 6 ∨ ci = 7 ∨ ci = 8 ∨ ci = 9 ∨ ci = 10) : KUv "LeftTown$Thing" 25 (cN ci) (⟨"LeftTown$Thing", "begin", "(I)V"⟩ : MethodName) m_G_begin m_G_begin 1 := by
  rcases h with rfl | rfl | rfl | rfl | rfl
  · exact ⟨rfl, ok_at 964 (by decide +kernel) rfl, ok_at 1579 (by decide +kernel) rfl, ok_at 949 (by decide +kernel) rfl, ok_at 1581 (by decide +kernel) rfl, ok_at 949 (by decide +kernel) rfl, km_G_begin, km_G_begin⟩
  · exact ⟨rfl, ok_at 964 (by decide +kernel) rfl, ok_at 1579 (by decide +kernel) rfl, ok_at 949 (by decide +kernel) rfl, ok_at 1580 (by decide +kernel) rfl, ok_at 949 (by decide +kernel) rfl, km_G_begin, km_G_begin⟩
  · exact ⟨rfl, ok_at 964 (by decide +kernel) rfl, ok_at 1579 (by decide +kernel) rfl, ok_at 949 (by decide +kernel) rfl, ok_at 1584 (by decide +kernel) rfl, ok_at 949 (by decide +kernel) rfl, km_G_begin, km_G_begin⟩
  · exact ⟨rfl, ok_at 964 (by decide +kernel) rfl, ok_at 1579 (by decide +kernel) rfl, ok_at 949 (by decide +kernel) rfl, ok_at 1582 (by decide +kernel) rfl, ok_at 949 (by decide +kernel) rfl, km_G_begin, km_G_begin⟩
  · exact ⟨rfl, ok_at 964 (by decide +kernel) rfl, ok_at 1579 (by decide +kernel) rfl, ok_at 949 (by decide +kernel) rfl, ok_at 1583 (by decide +kernel) rfl, ok_at 949 (by decide +kernel) rfl, km_G_begin, km_G_begin⟩
theorem lu_G_29 {ci : Nat} (h : ci = 6 ∨ ci = 7 ∨ ci = 8 ∨ ci = 9 ∨ ci = 10) : KUv "LeftTown$Thing" 29 (cN ci) (⟨"LeftTown$Thing", "turns", "(I)I"⟩ : MethodName) m_G_turns (mTu ci) 1 := by
  rcases h with rfl | rfl | rfl | rfl | rfl
  · exact ⟨rfl, ok_at 989 (by decide +kernel) rfl, ok_at 940 (by decide +kernel) rfl, ok_at 939 (by decide +kernel) rfl, ok_at 942 (by decide +kernel) rfl, ok_at 943 (by decide +kernel) rfl, km_G_turns, km_G1_turns⟩
  · exact ⟨rfl, ok_at 989 (by decide +kernel) rfl, ok_at 940 (by decide +kernel) rfl, ok_at 939 (by decide +kernel) rfl, ok_at 941 (by decide +kernel) rfl, ok_at 939 (by decide +kernel) rfl, km_G_turns, km_G_turns⟩
  · exact ⟨rfl, ok_at 989 (by decide +kernel) rfl, ok_at 940 (by decide +kernel) rfl, ok_at 939 (by decide +kernel) rfl, ok_at 954 (by decide +kernel) rfl, ok_at 955 (by decide +kernel) rfl, km_G_turns, km_G3_turns⟩
  · exact ⟨rfl, ok_at 989 (by decide +kernel) rfl, ok_at 940 (by decide +kernel) rfl, ok_at 939 (by decide +kernel) rfl, ok_at 952 (by decide +kernel) rfl, ok_at 939 (by decide +kernel) rfl, km_G_turns, km_G_turns⟩
  · exact ⟨rfl, ok_at 989 (by decide +kernel) rfl, ok_at 940 (by decide +kernel) rfl, ok_at 939 (by decide +kernel) rfl, ok_at 953 (by decide +kernel) rfl, ok_at 939 (by decide +kernel) rfl, km_G_turns, km_G_turns⟩
theorem lu_G_33 {ci : Nat} (h : ci = 6 ∨ ci = 7 ∨ ci = 8 ∨ ci = 9 ∨ ci = 10) : KUv "LeftTown$Thing" 33 (cN ci) (⟨"LeftTown$Thing", "goes", "(I)I"⟩ : MethodName) m_G_goes (mGo ci) 1 := by
  rcases h with rfl | rfl | rfl | rfl | rfl
  · exact ⟨rfl, ok_at 1030 (by decide +kernel) rfl, ok_at 967 (by decide +kernel) rfl, ok_at 966 (by decide +kernel) rfl, ok_at 976 (by decide +kernel) rfl, ok_at 966 (by decide +kernel) rfl, km_G_goes, km_G_goes⟩
  · exact ⟨rfl, ok_at 1030 (by decide +kernel) rfl, ok_at 967 (by decide +kernel) rfl, ok_at 966 (by decide +kernel) rfl, ok_at 968 (by decide +kernel) rfl, ok_at 969 (by decide +kernel) rfl, km_G_goes, km_G2_goes⟩
  · exact ⟨rfl, ok_at 1030 (by decide +kernel) rfl, ok_at 967 (by decide +kernel) rfl, ok_at 966 (by decide +kernel) rfl, ok_at 987 (by decide +kernel) rfl, ok_at 969 (by decide +kernel) rfl, km_G_goes, km_G2_goes⟩
  · exact ⟨rfl, ok_at 1030 (by decide +kernel) rfl, ok_at 967 (by decide +kernel) rfl, ok_at 966 (by decide +kernel) rfl, ok_at 977 (by decide +kernel) rfl, ok_at 966 (by decide +kernel) rfl, km_G_goes, km_G_goes⟩
  · exact ⟨rfl, ok_at 1030 (by decide +kernel) rfl, ok_at 967 (by decide +kernel) rfl, ok_at 966 (by decide +kernel) rfl, ok_at 978 (by decide +kernel) rfl, ok_at 979 (by decide +kernel) rfl, km_G_goes, km_G5_goes⟩
theorem lu_G1_7 {ci : Nat} (h : ci = 6) : KUv "LeftTown$On" 7 (cN ci) (⟨"LeftTown$On", "begin", "(I)V"⟩ : MethodName) m_G_begin m_G_begin 1 := by
  subst h
  · exact ⟨rfl, ok_at 945 (by decide +kernel) rfl, ok_at 946 (by decide +kernel) rfl, ok_at 949 (by decide +kernel) rfl, ok_at 948 (by decide +kernel) rfl, ok_at 949 (by decide +kernel) rfl, km_G_begin, km_G_begin⟩
theorem lu_G2_7 {ci : Nat} (h : ci = 7 ∨ ci = 8) : KUv "LeftTown$Left" 7 (cN ci) (⟨"LeftTown$Left", "begin", "(I)V"⟩ : MethodName) m_G_begin m_G_begin 1 := by
  rcases h with rfl | rfl
  · exact ⟨rfl, ok_at 971 (by decide +kernel) rfl, ok_at 972 (by decide +kernel) rfl, ok_at 949 (by decide +kernel) rfl, ok_at 973 (by decide +kernel) rfl, ok_at 949 (by decide +kernel) rfl, km_G_begin, km_G_begin⟩
  · exact ⟨rfl, ok_at 971 (by decide +kernel) rfl, ok_at 972 (by decide +kernel) rfl, ok_at 949 (by decide +kernel) rfl, ok_at 974 (by decide +kernel) rfl, ok_at 949 (by decide +kernel) rfl, km_G_begin, km_G_begin⟩
theorem lu_G3_7 {ci : Nat} (h : ci = 8) : KUv "LeftTown$Sharp" 7 (cN ci) (⟨"LeftTown$Sharp", "begin", "(I)V"⟩ : MethodName) m_G_begin m_G_begin 1 := by
  subst h
  · exact ⟨rfl, ok_at 957 (by decide +kernel) rfl, ok_at 958 (by decide +kernel) rfl, ok_at 949 (by decide +kernel) rfl, ok_at 959 (by decide +kernel) rfl, ok_at 949 (by decide +kernel) rfl, km_G_begin, km_G_begin⟩
theorem lu_G4_7 {ci : Nat} (h : ci = 9 ∨ ci = 10) : KUv "LeftTown$Right" 7 (cN ci) (⟨"LeftTown$Right", "begin", "(I)V"⟩ : MethodName) m_G_begin m_G_begin 1 := by
  rcases h with rfl | rfl
  · exact ⟨rfl, ok_at 998 (by decide +kernel) rfl, ok_at 999 (by decide +kernel) rfl, ok_at 949 (by decide +kernel) rfl, ok_at 1000 (by decide +kernel) rfl, ok_at 949 (by decide +kernel) rfl, km_G_begin, km_G_begin⟩
  · exact ⟨rfl, ok_at 998 (by decide +kernel) rfl, ok_at 999 (by decide +kernel) rfl, ok_at 949 (by decide +kernel) rfl, ok_at 1001 (by decide +kernel) rfl, ok_at 949 (by decide +kernel) rfl, km_G_begin, km_G_begin⟩
theorem lu_G5_7 {ci : Nat} (h : ci = 10) : KUv "LeftTown$Round" 7 (cN ci) (⟨"LeftTown$Round", "begin", "(I)V"⟩ : MethodName) m_G_begin m_G_begin 1 := by
  subst h
  · exact ⟨rfl, ok_at 981 (by decide +kernel) rfl, ok_at 982 (by decide +kernel) rfl, ok_at 949 (by decide +kernel) rfl, ok_at 983 (by decide +kernel) rfl, ok_at 949 (by decide +kernel) rfl, km_G_begin, km_G_begin⟩
theorem lu_G5_24 {ci : Nat} (h : ci = 10) : KUv "LeftTown$Round" 24 (cN ci) (⟨"LeftTown$Round", "turns", "(I)I"⟩ : MethodName) m_G_turns m_G_turns 1 := by
  subst h
  · exact ⟨rfl, ok_at 1007 (by decide +kernel) rfl, ok_at 1008 (by decide +kernel) rfl, ok_at 939 (by decide +kernel) rfl, ok_at 1009 (by decide +kernel) rfl, ok_at 939 (by decide +kernel) rfl, km_G_turns, km_G_turns⟩
theorem lu_G3_24 {ci : Nat} (h : ci = 8) : KUv "LeftTown$Sharp" 24 (cN ci) (⟨"LeftTown$Sharp", "sees", "(I)I"⟩ : MethodName) m_G_sees m_G_sees 1 := by
  subst h
  · exact ⟨rfl, ok_at 1025 (by decide +kernel) rfl, ok_at 1026 (by decide +kernel) rfl, ok_at 991 (by decide +kernel) rfl, ok_at 1028 (by decide +kernel) rfl, ok_at 991 (by decide +kernel) rfl, km_G_sees, km_G_sees⟩
theorem lu_X_299 {ci : Nat} (h : ci = 6 ∨ ci = 7 ∨ ci = 8 ∨ ci = 9 ∨ ci = 10) : KUv "LeftTown" 299 (cN ci) (⟨"LeftTown$Thing", "turns", "(I)I"⟩ : MethodName) m_G_turns (mTu ci) 1 := by
  rcases h with rfl | rfl | rfl | rfl | rfl
  · exact ⟨rfl, ok_at 938 (by decide +kernel) rfl, ok_at 940 (by decide +kernel) rfl, ok_at 939 (by decide +kernel) rfl, ok_at 942 (by decide +kernel) rfl, ok_at 943 (by decide +kernel) rfl, km_G_turns, km_G1_turns⟩
  · exact ⟨rfl, ok_at 938 (by decide +kernel) rfl, ok_at 940 (by decide +kernel) rfl, ok_at 939 (by decide +kernel) rfl, ok_at 941 (by decide +kernel) rfl, ok_at 939 (by decide +kernel) rfl, km_G_turns, km_G_turns⟩
  · exact ⟨rfl, ok_at 938 (by decide +kernel) rfl, ok_at 940 (by decide +kernel) rfl, ok_at 939 (by decide +kernel) rfl, ok_at 954 (by decide +kernel) rfl, ok_at 955 (by decide +kernel) rfl, km_G_turns, km_G3_turns⟩
  · exact ⟨rfl, ok_at 938 (by decide +kernel) rfl, ok_at 940 (by decide +kernel) rfl, ok_at 939 (by decide +kernel) rfl, ok_at 952 (by decide +kernel) rfl, ok_at 939 (by decide +kernel) rfl, km_G_turns, km_G_turns⟩
  · exact ⟨rfl, ok_at 938 (by decide +kernel) rfl, ok_at 940 (by decide +kernel) rfl, ok_at 939 (by decide +kernel) rfl, ok_at 953 (by decide +kernel) rfl, ok_at 939 (by decide +kernel) rfl, km_G_turns, km_G_turns⟩
theorem lu_X_304 {ci : Nat} (h : ci = 6 ∨ ci = 7 ∨ ci = 8 ∨ ci = 9 ∨ ci = 10) : KUv "LeftTown" 304 (cN ci) (⟨"LeftTown$Thing", "goes", "(I)I"⟩ : MethodName) m_G_goes (mGo ci) 1 := by
  rcases h with rfl | rfl | rfl | rfl | rfl
  · exact ⟨rfl, ok_at 965 (by decide +kernel) rfl, ok_at 967 (by decide +kernel) rfl, ok_at 966 (by decide +kernel) rfl, ok_at 976 (by decide +kernel) rfl, ok_at 966 (by decide +kernel) rfl, km_G_goes, km_G_goes⟩
  · exact ⟨rfl, ok_at 965 (by decide +kernel) rfl, ok_at 967 (by decide +kernel) rfl, ok_at 966 (by decide +kernel) rfl, ok_at 968 (by decide +kernel) rfl, ok_at 969 (by decide +kernel) rfl, km_G_goes, km_G2_goes⟩
  · exact ⟨rfl, ok_at 965 (by decide +kernel) rfl, ok_at 967 (by decide +kernel) rfl, ok_at 966 (by decide +kernel) rfl, ok_at 987 (by decide +kernel) rfl, ok_at 969 (by decide +kernel) rfl, km_G_goes, km_G2_goes⟩
  · exact ⟨rfl, ok_at 965 (by decide +kernel) rfl, ok_at 967 (by decide +kernel) rfl, ok_at 966 (by decide +kernel) rfl, ok_at 977 (by decide +kernel) rfl, ok_at 966 (by decide +kernel) rfl, km_G_goes, km_G_goes⟩
  · exact ⟨rfl, ok_at 965 (by decide +kernel) rfl, ok_at 967 (by decide +kernel) rfl, ok_at 966 (by decide +kernel) rfl, ok_at 978 (by decide +kernel) rfl, ok_at 979 (by decide +kernel) rfl, km_G_goes, km_G5_goes⟩
theorem lu_X_307 {ci : Nat} (h : ci = 6 ∨ ci = 7 ∨ ci = 8 ∨ ci = 9 ∨ ci = 10) : KUv "LeftTown" 307 (cN ci) (⟨"LeftTown$Thing", "sees", "(I)I"⟩ : MethodName) m_G_sees (mSe ci) 1 := by
  rcases h with rfl | rfl | rfl | rfl | rfl
  · exact ⟨rfl, ok_at 990 (by decide +kernel) rfl, ok_at 992 (by decide +kernel) rfl, ok_at 991 (by decide +kernel) rfl, ok_at 994 (by decide +kernel) rfl, ok_at 991 (by decide +kernel) rfl, km_G_sees, km_G_sees⟩
  · exact ⟨rfl, ok_at 990 (by decide +kernel) rfl, ok_at 992 (by decide +kernel) rfl, ok_at 991 (by decide +kernel) rfl, ok_at 993 (by decide +kernel) rfl, ok_at 991 (by decide +kernel) rfl, km_G_sees, km_G_sees⟩
  · exact ⟨rfl, ok_at 990 (by decide +kernel) rfl, ok_at 992 (by decide +kernel) rfl, ok_at 991 (by decide +kernel) rfl, ok_at 1010 (by decide +kernel) rfl, ok_at 991 (by decide +kernel) rfl, km_G_sees, km_G_sees⟩
  · exact ⟨rfl, ok_at 990 (by decide +kernel) rfl, ok_at 992 (by decide +kernel) rfl, ok_at 991 (by decide +kernel) rfl, ok_at 995 (by decide +kernel) rfl, ok_at 996 (by decide +kernel) rfl, km_G_sees, km_G4_sees⟩
  · exact ⟨rfl, ok_at 990 (by decide +kernel) rfl, ok_at 992 (by decide +kernel) rfl, ok_at 991 (by decide +kernel) rfl, ok_at 1003 (by decide +kernel) rfl, ok_at 1004 (by decide +kernel) rfl, km_G_sees, km_G5_sees⟩
theorem lu_X_310 {ci : Nat} (h : ci = 6 ∨ ci = 7 ∨ ci = 8 ∨ ci = 9 ∨ ci = 10) : KUv "LeftTown" 310 (cN ci) (⟨"LeftTown$Thing", "tells", "(I)I"⟩ : MethodName) m_G_tells (mTe ci) 1 := by
  rcases h with rfl | rfl | rfl | rfl | rfl
  · exact ⟨rfl, ok_at 1012 (by decide +kernel) rfl, ok_at 1014 (by decide +kernel) rfl, ok_at 1013 (by decide +kernel) rfl, ok_at 1016 (by decide +kernel) rfl, ok_at 1013 (by decide +kernel) rfl, km_G_tells, km_G_tells⟩
  · exact ⟨rfl, ok_at 1012 (by decide +kernel) rfl, ok_at 1014 (by decide +kernel) rfl, ok_at 1013 (by decide +kernel) rfl, ok_at 1015 (by decide +kernel) rfl, ok_at 1013 (by decide +kernel) rfl, km_G_tells, km_G_tells⟩
  · exact ⟨rfl, ok_at 1012 (by decide +kernel) rfl, ok_at 1014 (by decide +kernel) rfl, ok_at 1013 (by decide +kernel) rfl, ok_at 1019 (by decide +kernel) rfl, ok_at 1020 (by decide +kernel) rfl, km_G_tells, km_G3_tells⟩
  · exact ⟨rfl, ok_at 1012 (by decide +kernel) rfl, ok_at 1014 (by decide +kernel) rfl, ok_at 1013 (by decide +kernel) rfl, ok_at 1017 (by decide +kernel) rfl, ok_at 1013 (by decide +kernel) rfl, km_G_tells, km_G_tells⟩
  · exact ⟨rfl, ok_at 1012 (by decide +kernel) rfl, ok_at 1014 (by decide +kernel) rfl, ok_at 1013 (by decide +kernel) rfl, ok_at 1018 (by decide +kernel) rfl, ok_at 1013 (by decide +kernel) rfl, km_G_tells, km_G_tells⟩
theorem ls_G1_13 : KSup "LeftTown$On" 13 (⟨"LeftTown$Thing", "turns", "(I)I"⟩ : MethodName) m_G_turns 1 := ⟨rfl, ok_at 951 (by decide +kernel) rfl, ok_at 940 (by decide +kernel) rfl, ok_at 893 (by decide +kernel) rfl, Or.inl rfl, ok_at 939 (by decide +kernel) rfl, by decide, km_G_turns⟩
theorem ls_G2_13 : KSup "LeftTown$Left" 13 (⟨"LeftTown$Thing", "goes", "(I)I"⟩ : MethodName) m_G_goes 1 := ⟨rfl, ok_at 975 (by decide +kernel) rfl, ok_at 967 (by decide +kernel) rfl, ok_at 904 (by decide +kernel) rfl, Or.inl rfl, ok_at 966 (by decide +kernel) rfl, by decide, km_G_goes⟩
theorem ls_G3_13 : KSup "LeftTown$Sharp" 13 (⟨"LeftTown$Left", "turns", "(I)I"⟩ : MethodName) m_G_turns 1 := ⟨rfl, ok_at 960 (by decide +kernel) rfl, ok_at 961 (by decide +kernel) rfl, ok_at 915 (by decide +kernel) rfl, Or.inr (ok_at 904 (by decide +kernel) rfl), ok_at 939 (by decide +kernel) rfl, by decide, km_G_turns⟩
theorem ls_G3_21 : KSup "LeftTown$Sharp" 21 (⟨"LeftTown$Left", "tells", "(I)I"⟩ : MethodName) m_G_tells 1 := ⟨rfl, ok_at 1022 (by decide +kernel) rfl, ok_at 1023 (by decide +kernel) rfl, ok_at 915 (by decide +kernel) rfl, Or.inr (ok_at 904 (by decide +kernel) rfl), ok_at 1013 (by decide +kernel) rfl, by decide, km_G_tells⟩
theorem ls_G4_13 : KSup "LeftTown$Right" 13 (⟨"LeftTown$Thing", "sees", "(I)I"⟩ : MethodName) m_G_sees 1 := ⟨rfl, ok_at 1002 (by decide +kernel) rfl, ok_at 992 (by decide +kernel) rfl, ok_at 926 (by decide +kernel) rfl, Or.inl rfl, ok_at 991 (by decide +kernel) rfl, by decide, km_G_sees⟩
theorem ls_G5_13 : KSup "LeftTown$Round" 13 (⟨"LeftTown$Right", "goes", "(I)I"⟩ : MethodName) m_G_goes 1 := ⟨rfl, ok_at 984 (by decide +kernel) rfl, ok_at 985 (by decide +kernel) rfl, ok_at 937 (by decide +kernel) rfl, Or.inr (ok_at 926 (by decide +kernel) rfl), ok_at 966 (by decide +kernel) rfl, by decide, km_G_goes⟩
theorem ls_G5_17 : KSup "LeftTown$Round" 17 (⟨"LeftTown$Right", "sees", "(I)I"⟩ : MethodName) m_G4_sees 1 := ⟨rfl, ok_at 1006 (by decide +kernel) rfl, ok_at 1585 (by decide +kernel) rfl, ok_at 937 (by decide +kernel) rfl, Or.inl rfl, ok_at 996 (by decide +kernel) rfl, by decide, km_G4_sees⟩
