/-! The things: where they lie, and what their methods do. -/
def bg (S : hs) (t : Nat) (x : Int32) : hs := if (30 : Int32) ≤ gI S t 3 then S else uI (uI S (t + 1) (gI S t 3).toNatClampNeg x) t 3 (gI S t 3 + (1 : Int32))
def bgs (S : hs) (t : Nat) (l : List Int32) : hs := l.foldl (fun S x => bg S t x) S
def Ok3 (S : hs) (t : Nat) : Prop := ∃ k, k ≤ 30 ∧ gI S t 3 = iN k
def Tg (c : cx) (t ci : Nat) : Prop := ∃ j, t = 213 + 2 * j ∧ j < c.1 ∧ c.2.2.1 t = ci ∧ 6 ≤ ci ∧ ci ≤ 10
theorem bg_i {S : hs} {t i : Nat} {x : Int32} (hi : i ≠ 3) : gI (bg S t x) t i = gI S t i := by
  unfold bg
  split
  · rfl
  · rw [gI_un hi, gI_ua (by omega)]
theorem bgs_i {t i : Nat} (hi : i ≠ 3) : ∀ (l : List Int32) (S : hs), gI (bgs S t l) t i = gI S t i
  | [], _ => rfl
  | x :: l, S => (bgs_i hi l (bg S t x)).trans (bg_i hi)
theorem bgs_0 {S : hs} {t : Nat} {l : List Int32} : gI (bgs S t l) t 0 = gI S t 0 := bgs_i (by decide) l S
theorem bgs_1 {S : hs} {t : Nat} {l : List Int32} : gI (bgs S t l) t 1 = gI S t 1 := bgs_i (by decide) l S
theorem Ok3.b1 {S : hs} {t : Nat} {x : Int32} (h : Ok3 S t) : Ok3 (bg S t x) t := by
  obtain ⟨k, h1, h2⟩ := h
  unfold bg
  by_cases q : (30 : Int32) ≤ gI S t 3
  · rw [if_pos q]; exact ⟨k, h1, h2⟩
  · rw [if_neg q]
    rw [h2] at q
    have : ¬ 30 ≤ k := fun z => q (le_y (a := 30) rfl (iN_i (by omega)) (by omega))
    exact ⟨k + 1, by omega, by rw [gI_us, h2, iN_1]⟩
theorem Ok3.bgs {t : Nat} : ∀ (l : List Int32) {S : hs}, Ok3 S t → Ok3 (bgs S t l) t
  | [], _, h => h
  | _ :: l, _, h => Ok3.bgs l h.b1
theorem mk_le (c : cx) (S1 S2 : hs) : hN (mk c S1) ≤ hN (mk c S2) ∧ hZ (mk c S1) ≤ hZ (mk c S2) := ⟨Nat.le_refl _, Nat.le_refl _⟩
theorem bgs_app {S : hs} {t : Nat} {l1 l2 : List Int32} : bgs (bgs S t l1) t l2 = bgs S t (l1 ++ l2) := List.foldl_append.symm
theorem nblt {a b : Nat} (h : b ≤ a) : Nat.blt a b = false := by
  cases hb : Nat.blt a b with
  | true => exact absurd (blt_e hb) (by omega)
  | false => rfl
section
variable {c : cx} {S : hs} {t ci : Nat}
theorem Tg.K (h : Tg c t ci) : K0 c t = (ci, 4) := by
  obtain ⟨j, rfl, hj, rfl, -⟩ := h
  unfold K0
  rw [nblt (by omega), show (213 + 2 * j) % 2 = 1 from by omega]; rfl
theorem Tg.K1 (h : Tg c t ci) : K0 c (t + 1) = (20, 30) := by
  obtain ⟨j, rfl, hj, rfl, -⟩ := h
  unfold K0
  rw [nblt (by omega), show (213 + 2 * j + 1) % 2 = 0 from by omega]; rfl
theorem Tg.R (h : Tg c t ci) : R0 c t 2 = some (t + 1) := by
  obtain ⟨j, rfl, hj, rfl, -⟩ := h
  unfold R0
  rw [nblt (by omega), show (213 + 2 * j) % 2 = 1 from by omega]; rfl
theorem Tg.lt (h : Tg c t ci) : 213 ≤ t ∧ t + 1 < 213 + 2 * c.1 := by
  obtain ⟨j, rfl, hj, -⟩ := h
  omega
theorem Tg.five (h : Tg c t ci) : ci = 6 ∨ ci = 7 ∨ ci = 8 ∨ ci = 9 ∨ ci = 10 := by
  obtain ⟨j, -, -, -, h1, h2⟩ := h
  omega
theorem okO_t (h : Tg c t ci) : okO (mk c S) t 12 := by
  have := h.lt
  have hc := h.five
  refine ⟨by omega, (show t < 213 + 2 * c.1 by omega), ?_, ?_⟩
  · show (K0 c t).1 < 12; rw [h.K]; show ci < 12; omega
  · show subC (K0 c t).1 12 = true; rw [h.K]
    rcases hc with rfl | rfl | rfl | rfl | rfl <;> decide
theorem isC_t (h : Tg c t ci) : isC (mk c S) t (cN ci) := by
  have := h.lt
  have hc := h.five
  refine Or.inl ⟨by omega, (show t < 213 + 2 * c.1 by omega), ?_, ?_⟩
  · show (K0 c t).1 < 12; rw [h.K]; show ci < 12; omega
  · show cN (K0 c t).1 = _; rw [h.K]
theorem okB_t (h : Tg c t ci) {i : Int32} (hi : inb i 30 = true) : okB (mk c S) (t + 1) 20 i := by
  have := h.lt
  refine ⟨by omega, (show t + 1 < 213 + 2 * c.1 by omega), ?_, ?_⟩
  · show (K0 c (t + 1)).1 = 20; rw [h.K1]
  · show vp_in i (K0 c (t + 1)).2; rw [h.K1]; exact inb_in hi
theorem okA_t (h : Tg c t ci) {i : Int32} (hi : inb i 30 = true) : okA (mk c S) (t + 1) 20 i := by
  obtain ⟨h1, h2, h3, h4⟩ := okB_t (S := S) h hi
  exact ⟨by omega, h2, h3, h4⟩
theorem hR_t (h : Tg c t ci) : hR (mk c S) t 2 = some (t + 1) := h.R
end
def mTu (ci : Nat) : Mt := if ci = 6 then m_G1_turns else if ci = 8 then m_G3_turns else m_G_turns
def mGo (ci : Nat) : Mt := if ci = 7 then m_G2_goes else if ci = 8 then m_G2_goes else if ci = 10 then m_G5_goes else m_G_goes
def mSe (ci : Nat) : Mt := if ci = 9 then m_G4_sees else if ci = 10 then m_G5_sees else m_G_sees
def mTe (ci : Nat) : Mt := if ci = 8 then m_G3_tells else m_G_tells
def vTu (ci : Nat) (n a x : Int32) : Int32 := if ci = 6 then (x + a) * (3 : Int32) else if ci = 8 then (x + a) ^^^ n else x + a
def bTu (ci : Nat) : List Int32 := if ci = 6 then [20, 10] else if ci = 8 then [50, 10] else [10]
def vGo (ci : Nat) (n a x : Int32) : Int32 := if ci = 7 then vTu ci n a x * (2 : Int32) - a else if ci = 8 then vTu ci n a x * (2 : Int32) - a else if ci = 10 then (0 : Int32) - vTu ci n a x * (2 : Int32) else vTu ci n a x * (2 : Int32)
def bGo (ci : Nat) : List Int32 := if ci = 7 then 30 :: 11 :: bTu ci else if ci = 8 then 30 :: 11 :: bTu ci else if ci = 10 then 60 :: 11 :: bTu ci else 11 :: bTu ci
def vS0 (n a x : Int32) : Int32 := if a - n = 0 then -15 else x / (a - n)
def vSe (ci : Nat) (n a x : Int32) : Int32 := if ci = 9 then vS0 n a (x + (1 : Int32)) else if ci = 10 then vS0 n a (x + (1 : Int32)) + (n + a) else vS0 n a x
def bSe (ci : Nat) : List Int32 := if ci = 9 then [40, 12] else if ci = 10 then [61, 40, 12, 10] else [12]
def vTe (ci : Nat) (n a x : Int32) : Int32 := if ci = 8 then (vGo ci n a x ^^^ n) + vS0 n a n else vGo ci n a x ^^^ n
def bTe (ci : Nat) : List Int32 := if ci = 8 then [51, 13, 30, 11, 50, 10, 12] else 13 :: bGo ci
theorem lu_G_25 {ci : Nat} (h : ci = 6 ∨ ci = 7 ∨ ci = 8 ∨ ci = 9 ∨ ci = 10) : KUv "LeftTown$Thing" 25 (cN ci) (⟨"LeftTown$Thing", "begin", "(I)V"⟩ : MethodName) m_G_begin m_G_begin 1 := by
  rcases h with rfl | rfl | rfl | rfl | rfl
  · exact ⟨rfl, ok_at 964 (by decide +kernel) rfl, ok_at 1579 (by decide +kernel) rfl, ok_at 949 (by decide +kernel) rfl, ok_at 1581 (by decide +kernel) rfl, ok_at 949 (by decide +kernel) rfl, km_G_begin, km_G_begin⟩
  · exact ⟨rfl, ok_at 964 (by decide +kernel) rfl, ok_at 1579 (by decide +kernel) rfl, ok_at 949 (by decide +kernel) rfl, ok_at 1580 (by decide +kernel) rfl, ok_at 949 (by decide +kernel) rfl, km_G_begin, km_G_begin⟩
  · exact ⟨rfl, ok_at 964 (by decide +kernel) rfl, ok_at 1579 (by decide +kernel) rfl, ok_at 949 (by decide +kernel) rfl, ok_at 1584 (by decide +kernel) rfl, ok_at 949 (by decide +kernel) rfl, km_G_begin, km_G_begin⟩
  · exact ⟨rfl, ok_at 964 (by decide +kernel) rfl, ok_at 1579 (by decide +kernel) rfl, ok_at 949 (by decide +kernel) rfl, ok_at 1582 (by decide +kernel) rfl, ok_at 949 (by decide +kernel) rfl, km_G_begin, km_G_begin⟩
  · exact ⟨rfl, ok_at 964 (by decide +kernel) rfl, ok_at 1579 (by decide +kernel) rfl, ok_at 949 (by decide +kernel) rfl, ok_at 1583 (by decide +kernel) rfl, ok_at 949 (by decide +kernel) rfl, km_G_begin, km_G_begin⟩
theorem lu_G_29 {ci : Nat} (h : ci = 6 ∨ ci = 7 ∨ ci = 8 ∨ ci = 9 ∨ ci = 10) : KUv "LeftTown$Thing" 29 (cN ci) (⟨"LeftTown$Thing", "turns", "(I)I"⟩ : MethodName) m_G_turns (mTu ci) 1 := by
  rcases h with rfl | rfl | rfl | rfl | rfl
  · exact ⟨rfl, ok_at 989 (by decide +kernel) rfl, ok_at 940 (by decide +kernel) rfl, ok_at 939 (by decide +kernel) rfl, ok_at 942 (by decide +kernel) rfl, ok_at 943 (by decide +kernel) rfl, km_G_turns, km_G1_turns⟩
  · exact ⟨rfl, ok_at 989 (by decide +kernel) rfl, ok_at 940 (by decide +kernel) rfl, ok_at 939 (by decide +kernel) rfl, ok_at 941 (by decide +kernel) rfl, ok_at 939 (by decide +kernel) rfl, km_G_turns, km_G_turns⟩
  · exact ⟨rfl, ok_at 989 (by decide +kernel) rfl, ok_at 940 (by decide +kernel) rfl, ok_at 939 (by decide +kernel) rfl, ok_at 954 (by decide +kernel) rfl, ok_at 955 (by decide +kernel) rfl, km_G_turns, km_G3_turns⟩
  · exact ⟨rfl, ok_at 989 (by decide +kernel) rfl, ok_at 940 (by decide +kernel) rfl, ok_at 939 (by decide +kernel) rfl, ok_at 952 (by decide +kernel) rfl, ok_at 939 (by decide +kernel) rfl, km_G_turns, km_G_turns⟩
  · exact ⟨rfl, ok_at 989 (by decide +kernel) rfl, ok_at 940 (by decide +kernel) rfl, ok_at 939 (by decide +kernel) rfl, ok_at 953 (by decide +kernel) rfl, ok_at 939 (by decide +kernel) rfl, km_G_turns, km_G_turns⟩
theorem lu_G_33 {ci : Nat} (h : ci = 6 ∨ ci = 7 ∨ ci = 8 ∨ ci = 9 ∨ ci = 10) : KUv "LeftTown$Thing" 33 (cN ci) (⟨"LeftTown$Thing", "goes", "(I)I"⟩ : MethodName) m_G_goes (mGo ci) 1 := by
  rcases h with rfl | rfl | rfl | rfl | rfl
  · exact ⟨rfl, ok_at 1030 (by decide +kernel) rfl, ok_at 967 (by decide +kernel) rfl, ok_at 966 (by decide +kernel) rfl, ok_at 976 (by decide +kernel) rfl, ok_at 966 (by decide +kernel) rfl, km_G_goes, km_G_goes⟩
  · exact ⟨rfl, ok_at 1030 (by decide +kernel) rfl, ok_at 967 (by decide +kernel) rfl, ok_at 966 (by decide +kernel) rfl, ok_at 968 (by decide +kernel) rfl, ok_at 969 (by decide +kernel) rfl, km_G_goes, km_G2_goes⟩
  · exact ⟨rfl, ok_at 1030 (by decide +kernel) rfl, ok_at 967 (by decide +kernel) rfl, ok_at 966 (by decide +kernel) rfl, ok_at 987 (by decide +kernel) rfl, ok_at 969 (by decide +kernel) rfl, km_G_goes, km_G2_goes⟩
  · exact ⟨rfl, ok_at 1030 (by decide +kernel) rfl, ok_at 967 (by decide +kernel) rfl, ok_at 966 (by decide +kernel) rfl, ok_at 977 (by decide +kernel) rfl, ok_at 966 (by decide +kernel) rfl, km_G_goes, km_G_goes⟩
  · exact ⟨rfl, ok_at 1030 (by decide +kernel) rfl, ok_at 967 (by decide +kernel) rfl, ok_at 966 (by decide +kernel) rfl, ok_at 978 (by decide +kernel) rfl, ok_at 979 (by decide +kernel) rfl, km_G_goes, km_G5_goes⟩
theorem lu_G1_7 {ci : Nat} (h : ci = 6) : KUv "LeftTown$On" 7 (cN ci) (⟨"LeftTown$On", "begin", "(I)V"⟩ : MethodName) m_G_begin m_G_begin 1 := by
  subst h
  · exact ⟨rfl, ok_at 945 (by decide +kernel) rfl, ok_at 946 (by decide +kernel) rfl, ok_at 949 (by decide +kernel) rfl, ok_at 948 (by decide +kernel) rfl, ok_at 949 (by decide +kernel) rfl, km_G_begin, km_G_begin⟩
theorem lu_G2_7 {ci : Nat} (h : ci = 7 ∨ ci = 8) : KUv "LeftTown$Left" 7 (cN ci) (⟨"LeftTown$Left", "begin", "(I)V"⟩ : MethodName) m_G_begin m_G_begin 1 := by
  rcases h with rfl | rfl
  · exact ⟨rfl, ok_at 971 (by decide +kernel) rfl, ok_at 972 (by decide +kernel) rfl, ok_at 949 (by decide +kernel) rfl, ok_at 973 (by decide +kernel) rfl, ok_at 949 (by decide +kernel) rfl, km_G_begin, km_G_begin⟩
  · exact ⟨rfl, ok_at 971 (by decide +kernel) rfl, ok_at 972 (by decide +kernel) rfl, ok_at 949 (by decide +kernel) rfl, ok_at 974 (by decide +kernel) rfl, ok_at 949 (by decide +kernel) rfl, km_G_begin, km_G_begin⟩
theorem lu_G3_7 {ci : Nat} (h : ci = 8) : KUv "LeftTown$Sharp" 7 (cN ci) (⟨"LeftTown$Sharp", "begin", "(I)V"⟩ : MethodName) m_G_begin m_G_begin 1 := by
  subst h
  · exact ⟨rfl, ok_at 957 (by decide +kernel) rfl, ok_at 958 (by decide +kernel) rfl, ok_at 949 (by decide +kernel) rfl, ok_at 959 (by decide +kernel) rfl, ok_at 949 (by decide +kernel) rfl, km_G_begin, km_G_begin⟩
theorem lu_G4_7 {ci : Nat} (h : ci = 9 ∨ ci = 10) : KUv "LeftTown$Right" 7 (cN ci) (⟨"LeftTown$Right", "begin", "(I)V"⟩ : MethodName) m_G_begin m_G_begin 1 := by
  rcases h with rfl | rfl
  · exact ⟨rfl, ok_at 998 (by decide +kernel) rfl, ok_at 999 (by decide +kernel) rfl, ok_at 949 (by decide +kernel) rfl, ok_at 1000 (by decide +kernel) rfl, ok_at 949 (by decide +kernel) rfl, km_G_begin, km_G_begin⟩
  · exact ⟨rfl, ok_at 998 (by decide +kernel) rfl, ok_at 999 (by decide +kernel) rfl, ok_at 949 (by decide +kernel) rfl, ok_at 1001 (by decide +kernel) rfl, ok_at 949 (by decide +kernel) rfl, km_G_begin, km_G_begin⟩
theorem lu_G5_7 {ci : Nat} (h : ci = 10) : KUv "LeftTown$Round" 7 (cN ci) (⟨"LeftTown$Round", "begin", "(I)V"⟩ : MethodName) m_G_begin m_G_begin 1 := by
  subst h
  · exact ⟨rfl, ok_at 981 (by decide +kernel) rfl, ok_at 982 (by decide +kernel) rfl, ok_at 949 (by decide +kernel) rfl, ok_at 983 (by decide +kernel) rfl, ok_at 949 (by decide +kernel) rfl, km_G_begin, km_G_begin⟩
theorem lu_G5_24 {ci : Nat} (h : ci = 10) : KUv "LeftTown$Round" 24 (cN ci) (⟨"LeftTown$Round", "turns", "(I)I"⟩ : MethodName) m_G_turns m_G_turns 1 := by
  subst h
  · exact ⟨rfl, ok_at 1007 (by decide +kernel) rfl, ok_at 1008 (by decide +kernel) rfl, ok_at 939 (by decide +kernel) rfl, ok_at 1009 (by decide +kernel) rfl, ok_at 939 (by decide +kernel) rfl, km_G_turns, km_G_turns⟩
theorem lu_G3_24 {ci : Nat} (h : ci = 8) : KUv "LeftTown$Sharp" 24 (cN ci) (⟨"LeftTown$Sharp", "sees", "(I)I"⟩ : MethodName) m_G_sees m_G_sees 1 := by
  subst h
  · exact ⟨rfl, ok_at 1025 (by decide +kernel) rfl, ok_at 1026 (by decide +kernel) rfl, ok_at 991 (by decide +kernel) rfl, ok_at 1028 (by decide +kernel) rfl, ok_at 991 (by decide +kernel) rfl, km_G_sees, km_G_sees⟩
theorem lu_X_299 {ci : Nat} (h : ci = 6 ∨ ci = 7 ∨ ci = 8 ∨ ci = 9 ∨ ci = 10) : KUv "LeftTown" 299 (cN ci) (⟨"LeftTown$Thing", "turns", "(I)I"⟩ : MethodName) m_G_turns (mTu ci) 1 := by
  rcases h with rfl | rfl | rfl | rfl | rfl
  · exact ⟨rfl, ok_at 938 (by decide +kernel) rfl, ok_at 940 (by decide +kernel) rfl, ok_at 939 (by decide +kernel) rfl, ok_at 942 (by decide +kernel) rfl, ok_at 943 (by decide +kernel) rfl, km_G_turns, km_G1_turns⟩
  · exact ⟨rfl, ok_at 938 (by decide +kernel) rfl, ok_at 940 (by decide +kernel) rfl, ok_at 939 (by decide +kernel) rfl, ok_at 941 (by decide +kernel) rfl, ok_at 939 (by decide +kernel) rfl, km_G_turns, km_G_turns⟩
  · exact ⟨rfl, ok_at 938 (by decide +kernel) rfl, ok_at 940 (by decide +kernel) rfl, ok_at 939 (by decide +kernel) rfl, ok_at 954 (by decide +kernel) rfl, ok_at 955 (by decide +kernel) rfl, km_G_turns, km_G3_turns⟩
  · exact ⟨rfl, ok_at 938 (by decide +kernel) rfl, ok_at 940 (by decide +kernel) rfl, ok_at 939 (by decide +kernel) rfl, ok_at 952 (by decide +kernel) rfl, ok_at 939 (by decide +kernel) rfl, km_G_turns, km_G_turns⟩
  · exact ⟨rfl, ok_at 938 (by decide +kernel) rfl, ok_at 940 (by decide +kernel) rfl, ok_at 939 (by decide +kernel) rfl, ok_at 953 (by decide +kernel) rfl, ok_at 939 (by decide +kernel) rfl, km_G_turns, km_G_turns⟩
theorem lu_X_304 {ci : Nat} (h : ci = 6 ∨ ci = 7 ∨ ci = 8 ∨ ci = 9 ∨ ci = 10) : KUv "LeftTown" 304 (cN ci) (⟨"LeftTown$Thing", "goes", "(I)I"⟩ : MethodName) m_G_goes (mGo ci) 1 := by
  rcases h with rfl | rfl | rfl | rfl | rfl
  · exact ⟨rfl, ok_at 965 (by decide +kernel) rfl, ok_at 967 (by decide +kernel) rfl, ok_at 966 (by decide +kernel) rfl, ok_at 976 (by decide +kernel) rfl, ok_at 966 (by decide +kernel) rfl, km_G_goes, km_G_goes⟩
  · exact ⟨rfl, ok_at 965 (by decide +kernel) rfl, ok_at 967 (by decide +kernel) rfl, ok_at 966 (by decide +kernel) rfl, ok_at 968 (by decide +kernel) rfl, ok_at 969 (by decide +kernel) rfl, km_G_goes, km_G2_goes⟩
  · exact ⟨rfl, ok_at 965 (by decide +kernel) rfl, ok_at 967 (by decide +kernel) rfl, ok_at 966 (by decide +kernel) rfl, ok_at 987 (by decide +kernel) rfl, ok_at 969 (by decide +kernel) rfl, km_G_goes, km_G2_goes⟩
  · exact ⟨rfl, ok_at 965 (by decide +kernel) rfl, ok_at 967 (by decide +kernel) rfl, ok_at 966 (by decide +kernel) rfl, ok_at 977 (by decide +kernel) rfl, ok_at 966 (by decide +kernel) rfl, km_G_goes, km_G_goes⟩
  · exact ⟨rfl, ok_at 965 (by decide +kernel) rfl, ok_at 967 (by decide +kernel) rfl, ok_at 966 (by decide +kernel) rfl, ok_at 978 (by decide +kernel) rfl, ok_at 979 (by decide +kernel) rfl, km_G_goes, km_G5_goes⟩
theorem lu_X_307 {ci : Nat} (h : ci = 6 ∨ ci = 7 ∨ ci = 8 ∨ ci = 9 ∨ ci = 10) : KUv "LeftTown" 307 (cN ci) (⟨"LeftTown$Thing", "sees", "(I)I"⟩ : MethodName) m_G_sees (mSe ci) 1 := by
  rcases h with rfl | rfl | rfl | rfl | rfl
  · exact ⟨rfl, ok_at 990 (by decide +kernel) rfl, ok_at 992 (by decide +kernel) rfl, ok_at 991 (by decide +kernel) rfl, ok_at 994 (by decide +kernel) rfl, ok_at 991 (by decide +kernel) rfl, km_G_sees, km_G_sees⟩
  · exact ⟨rfl, ok_at 990 (by decide +kernel) rfl, ok_at 992 (by decide +kernel) rfl, ok_at 991 (by decide +kernel) rfl, ok_at 993 (by decide +kernel) rfl, ok_at 991 (by decide +kernel) rfl, km_G_sees, km_G_sees⟩
  · exact ⟨rfl, ok_at 990 (by decide +kernel) rfl, ok_at 992 (by decide +kernel) rfl, ok_at 991 (by decide +kernel) rfl, ok_at 1010 (by decide +kernel) rfl, ok_at 991 (by decide +kernel) rfl, km_G_sees, km_G_sees⟩
  · exact ⟨rfl, ok_at 990 (by decide +kernel) rfl, ok_at 992 (by decide +kernel) rfl, ok_at 991 (by decide +kernel) rfl, ok_at 995 (by decide +kernel) rfl, ok_at 996 (by decide +kernel) rfl, km_G_sees, km_G4_sees⟩
  · exact ⟨rfl, ok_at 990 (by decide +kernel) rfl, ok_at 992 (by decide +kernel) rfl, ok_at 991 (by decide +kernel) rfl, ok_at 1003 (by decide +kernel) rfl, ok_at 1004 (by decide +kernel) rfl, km_G_sees, km_G5_sees⟩
theorem lu_X_310 {ci : Nat} (h : ci = 6 ∨ ci = 7 ∨ ci = 8 ∨ ci = 9 ∨ ci = 10) : KUv "LeftTown" 310 (cN ci) (⟨"LeftTown$Thing", "tells", "(I)I"⟩ : MethodName) m_G_tells (mTe ci) 1 := by
  rcases h with rfl | rfl | rfl | rfl | rfl
  · exact ⟨rfl, ok_at 1012 (by decide +kernel) rfl, ok_at 1014 (by decide +kernel) rfl, ok_at 1013 (by decide +kernel) rfl, ok_at 1016 (by decide +kernel) rfl, ok_at 1013 (by decide +kernel) rfl, km_G_tells, km_G_tells⟩
  · exact ⟨rfl, ok_at 1012 (by decide +kernel) rfl, ok_at 1014 (by decide +kernel) rfl, ok_at 1013 (by decide +kernel) rfl, ok_at 1015 (by decide +kernel) rfl, ok_at 1013 (by decide +kernel) rfl, km_G_tells, km_G_tells⟩
  · exact ⟨rfl, ok_at 1012 (by decide +kernel) rfl, ok_at 1014 (by decide +kernel) rfl, ok_at 1013 (by decide +kernel) rfl, ok_at 1019 (by decide +kernel) rfl, ok_at 1020 (by decide +kernel) rfl, km_G_tells, km_G3_tells⟩
  · exact ⟨rfl, ok_at 1012 (by decide +kernel) rfl, ok_at 1014 (by decide +kernel) rfl, ok_at 1013 (by decide +kernel) rfl, ok_at 1017 (by decide +kernel) rfl, ok_at 1013 (by decide +kernel) rfl, km_G_tells, km_G_tells⟩
  · exact ⟨rfl, ok_at 1012 (by decide +kernel) rfl, ok_at 1014 (by decide +kernel) rfl, ok_at 1013 (by decide +kernel) rfl, ok_at 1018 (by decide +kernel) rfl, ok_at 1013 (by decide +kernel) rfl, km_G_tells, km_G_tells⟩
theorem ls_G1_13 : KSup "LeftTown$On" 13 (⟨"LeftTown$Thing", "turns", "(I)I"⟩ : MethodName) m_G_turns 1 := ⟨rfl, ok_at 951 (by decide +kernel) rfl, ok_at 940 (by decide +kernel) rfl, ok_at 893 (by decide +kernel) rfl, Or.inl rfl, ok_at 939 (by decide +kernel) rfl, by decide, km_G_turns⟩
theorem ls_G2_13 : KSup "LeftTown$Left" 13 (⟨"LeftTown$Thing", "goes", "(I)I"⟩ : MethodName) m_G_goes 1 := ⟨rfl, ok_at 975 (by decide +kernel) rfl, ok_at 967 (by decide +kernel) rfl, ok_at 904 (by decide +kernel) rfl, Or.inl rfl, ok_at 966 (by decide +kernel) rfl, by decide, km_G_goes⟩
theorem ls_G3_13 : KSup "LeftTown$Sharp" 13 (⟨"LeftTown$Left", "turns", "(I)I"⟩ : MethodName) m_G_turns 1 := ⟨rfl, ok_at 960 (by decide +kernel) rfl, ok_at 961 (by decide +kernel) rfl, ok_at 915 (by decide +kernel) rfl, Or.inr (ok_at 904 (by decide +kernel) rfl), ok_at 939 (by decide +kernel) rfl, by decide, km_G_turns⟩
theorem ls_G3_21 : KSup "LeftTown$Sharp" 21 (⟨"LeftTown$Left", "tells", "(I)I"⟩ : MethodName) m_G_tells 1 := ⟨rfl, ok_at 1022 (by decide +kernel) rfl, ok_at 1023 (by decide +kernel) rfl, ok_at 915 (by decide +kernel) rfl, Or.inr (ok_at 904 (by decide +kernel) rfl), ok_at 1013 (by decide +kernel) rfl, by decide, km_G_tells⟩
theorem ls_G4_13 : KSup "LeftTown$Right" 13 (⟨"LeftTown$Thing", "sees", "(I)I"⟩ : MethodName) m_G_sees 1 := ⟨rfl, ok_at 1002 (by decide +kernel) rfl, ok_at 992 (by decide +kernel) rfl, ok_at 926 (by decide +kernel) rfl, Or.inl rfl, ok_at 991 (by decide +kernel) rfl, by decide, km_G_sees⟩
theorem ls_G5_13 : KSup "LeftTown$Round" 13 (⟨"LeftTown$Right", "goes", "(I)I"⟩ : MethodName) m_G_goes 1 := ⟨rfl, ok_at 984 (by decide +kernel) rfl, ok_at 985 (by decide +kernel) rfl, ok_at 937 (by decide +kernel) rfl, Or.inr (ok_at 926 (by decide +kernel) rfl), ok_at 966 (by decide +kernel) rfl, by decide, km_G_goes⟩
theorem ls_G5_17 : KSup "LeftTown$Round" 17 (⟨"LeftTown$Right", "sees", "(I)I"⟩ : MethodName) m_G4_sees 1 := ⟨rfl, ok_at 1006 (by decide +kernel) rfl, ok_at 1585 (by decide +kernel) rfl, ok_at 937 (by decide +kernel) rfl, Or.inl rfl, ok_at 996 (by decide +kernel) rfl, by decide, km_G4_sees⟩
def b_G_begin_0_3 : List Ins := [(.aload_n 0, 0, 0, 0), (.getfield 22, 12, 3, 0), (.bipush (30), 0, 0, 0)]
theorem k_G_begin_0_3 : bok m_G_begin 0 b_G_begin_0_3 = true := by decide +kernel
def b_G_begin_9_2 : List Ins := [(.aload_n 0, 0, 0, 0), (.getfield 9, 12, 2, 2)]
theorem k_G_begin_9_2 : bok m_G_begin 9 b_G_begin_9_2 = true := by decide +kernel
def b_G_begin_13_10 : List Ins := [(.aload_n 0, 0, 0, 0), (.getfield 22, 12, 3, 0), (.iload_n 1, 0, 0, 0), (.iastore, 0, 0, 0), (.aload_n 0, 0, 0, 0), (.dup, 0, 0, 0), (.getfield 22, 12, 3, 0), (.iconst (1), 0, 0, 0), (.iadd, 0, 0, 0), (.putfield 22, 12, 3, 0)]
theorem k_G_begin_13_10 : bok m_G_begin 13 b_G_begin_13_10 = true := by decide +kernel
theorem d_G_begin_6 : decode m_G_begin.2.1 6 = .ok (.if_icmp .ge (23), 3) := by decide +kernel
theorem d_G_begin_29 : decode m_G_begin.2.1 29 = .ok (.return_, 1) := by decide +kernel
theorem c_G_begin (w : Wd) (d : Nat) (c : cx) (S : hs) (t ci : Nat) (x : Int32) (hT : Tg c t ci) (h3 : Ok3 S t) : Cl w d m_G_begin [.ref t, .int x] (mk c S) none (mk c (bgs S t [x])) := by
  have e0 : bgs S t [x] = bg S t x := rfl
  rw [e0]
  refine Cl.of (mk_le _ _ _).1 (mk_le _ _ _).2 (by decide +kernel) (Nat.le_of_ble_eq_true rfl) ?_
  generalize hN (mk c S) = n0
  generalize hZ (mk c S) = z0
  show J w d m_G_begin (n0, z0, none, mk c (bg S t x)) 0 [some (.ref t), some (.int x)] [] (mk c S)
  refine J.run b_G_begin_0_3 k_G_begin_0_3 rfl (And.intro (okO_t hT) (show J w d m_G_begin (n0, z0, none, mk c (bg S t x)) 6 [some (.ref t), some (.int x)] [.int (30 : Int32), .int (gI S t 3)] (mk c S) from ?_))
  refine J.cge (tgt := 29) d_G_begin_6 rfl (fun q => ?_) (fun q => ?_)
  · have e : bg S t x = S := if_pos q
    rw [e]
    exact J.vret d_G_begin_29 rfl rfl
  · obtain ⟨k, h1, h2⟩ := h3
    have hk : ¬ 30 ≤ k := fun z => q (by rw [h2]; exact le_y (a := 30) rfl (iN_i (by omega)) (by omega))
    have e : bg S t x = uI (uI S (t + 1) (gI S t 3).toNatClampNeg x) t 3 (gI (uI S (t + 1) (gI S t 3).toNatClampNeg x) t 3 + (1 : Int32)) := by
      unfold bg
      rw [if_neg q, gI_ua (show t ≠ t + 1 by omega)]
    rw [e]
    refine J.run b_G_begin_9_2 k_G_begin_9_2 rfl (And.intro (okO_t hT) (show J w d m_G_begin (n0, z0, none, mk c (uI (uI S (t + 1) (gI S t 3).toNatClampNeg x) t 3 (gI (uI S (t + 1) (gI S t 3).toNatClampNeg x) t 3 + (1 : Int32)))) 13 [some (.ref t), some (.int x)] [rv (hR (mk c S) t 2)] (mk c S) from ?_))
    rw [hR_t hT]
    show J w d m_G_begin (n0, z0, none, mk c (uI (uI S (t + 1) (gI S t 3).toNatClampNeg x) t 3 (gI (uI S (t + 1) (gI S t 3).toNatClampNeg x) t 3 + (1 : Int32)))) 13 [some (.ref t), some (.int x)] [.ref (t + 1)] (mk c S)
    refine J.run b_G_begin_13_10 k_G_begin_13_10 rfl (And.intro (okO_t hT) (And.intro (okB_t hT (by show inb (gI S t 3) 30 = true; rw [h2]; exact iN_b (by omega) (by decide))) (And.intro (okO_t (S := uI S (t + 1) (gI S t 3).toNatClampNeg x) hT) (And.intro (okO_t (S := uI S (t + 1) (gI S t 3).toNatClampNeg x) hT) (show J w d m_G_begin (n0, z0, none, mk c (uI (uI S (t + 1) (gI S t 3).toNatClampNeg x) t 3 (gI (uI S (t + 1) (gI S t 3).toNatClampNeg x) t 3 + (1 : Int32)))) 29 [some (.ref t), some (.int x)] [] (mk c (uI (uI S (t + 1) (gI S t 3).toNatClampNeg x) t 3 (gI (uI S (t + 1) (gI S t 3).toNatClampNeg x) t 3 + (1 : Int32)))) from ?_)))))
    exact J.vret d_G_begin_29 rfl rfl
def b_G_turns_0_2 : List Ins := [(.aload_n 0, 0, 0, 0), (.bipush (10), 0, 0, 0)]
theorem k_G_turns_0_2 : bok m_G_turns 0 b_G_turns_0_2 = true := by decide +kernel
theorem d_G_turns_3 : decode m_G_turns.2.1 3 = .ok (.invokevirtual 25, 3) := by decide +kernel
def b_G_turns_6_4 : List Ins := [(.iload_n 1, 0, 0, 0), (.aload_n 0, 0, 0, 0), (.getfield 19, 12, 1, 0), (.iadd, 0, 0, 0)]
theorem k_G_turns_6_4 : bok m_G_turns 6 b_G_turns_6_4 = true := by decide +kernel
theorem d_G_turns_12 : decode m_G_turns.2.1 12 = .ok (.ireturn, 1) := by decide +kernel
theorem c_G_turns (w : Wd) (d : Nat) (c : cx) (S : hs) (t ci : Nat) (x : Int32) (hT : Tg c t ci) (h3 : Ok3 S t) : Cl w (d + 1) m_G_turns [.ref t, .int x] (mk c S) (some (.int (x + gI S t 1))) (mk c (bgs S t [10])) := by
  refine Cl.of (mk_le _ _ _).1 (mk_le _ _ _).2 (by decide +kernel) (Nat.le_of_ble_eq_true rfl) ?_
  generalize hN (mk c S) = n0
  generalize hZ (mk c S) = z0
  show J w (d + 1) m_G_turns (n0, z0, some (.int (x + gI S t 1)), mk c (bgs S t [10])) 0 [some (.ref t), some (.int x)] [] (mk c S)
  refine J.run b_G_turns_0_2 k_G_turns_0_2 rfl (show J w (d + 1) m_G_turns (n0, z0, some (.int (x + gI S t 1)), mk c (bgs S t [10])) 3 [some (.ref t), some (.int x)] [.int (10 : Int32), .ref t] (mk c S) from ?_)
  refine J.callU (y := m_G_begin) (o := m_G_begin) (x := (⟨"LeftTown$Thing", "begin", "(I)V"⟩ : MethodName)) (C := cN ci) (av := [.int (10 : Int32)]) (rest := []) (q := t) (lu_G_25 hT.five) d_G_turns_3 (isC_t hT) (c_G_begin w d c S t ci 10 hT h3) rfl (Nat.le_of_ble_eq_true rfl) (mk_le _ _ _) (show J w (d + 1) m_G_turns (n0, z0, some (.int (x + gI S t 1)), mk c (bgs S t [10])) 6 [some (.ref t), some (.int x)] [] (mk c (bgs S t [10])) from ?_)
  refine J.run b_G_turns_6_4 k_G_turns_6_4 rfl (And.intro (okO_t hT) (show J w (d + 1) m_G_turns (n0, z0, some (.int (x + gI S t 1)), mk c (bgs S t [10])) 12 [some (.ref t), some (.int x)] [.int (x + gI (bgs S t [10]) t 1)] (mk c (bgs S t [10])) from ?_))
  rw [bgs_1]
  exact J.iret d_G_turns_12 rfl rfl
def b_G1_turns_0_2 : List Ins := [(.aload_n 0, 0, 0, 0), (.bipush (20), 0, 0, 0)]
theorem k_G1_turns_0_2 : bok m_G1_turns 0 b_G1_turns_0_2 = true := by decide +kernel
theorem d_G1_turns_3 : decode m_G1_turns.2.1 3 = .ok (.invokevirtual 7, 3) := by decide +kernel
def b_G1_turns_6_2 : List Ins := [(.aload_n 0, 0, 0, 0), (.iload_n 1, 0, 0, 0)]
theorem k_G1_turns_6_2 : bok m_G1_turns 6 b_G1_turns_6_2 = true := by decide +kernel
theorem d_G1_turns_8 : decode m_G1_turns.2.1 8 = .ok (.invokespecial 13, 3) := by decide +kernel
def b_G1_turns_11_2 : List Ins := [(.iconst (3), 0, 0, 0), (.imul, 0, 0, 0)]
theorem k_G1_turns_11_2 : bok m_G1_turns 11 b_G1_turns_11_2 = true := by decide +kernel
theorem d_G1_turns_13 : decode m_G1_turns.2.1 13 = .ok (.ireturn, 1) := by decide +kernel
theorem c_G1_turns (w : Wd) (d : Nat) (c : cx) (S : hs) (t : Nat) (x : Int32) (hT : Tg c t 6) (h3 : Ok3 S t) : Cl w (d + 2) m_G1_turns [.ref t, .int x] (mk c S) (some (.int ((x + gI S t 1) * (3 : Int32)))) (mk c (bgs S t [20, 10])) := by
  refine Cl.of (mk_le _ _ _).1 (mk_le _ _ _).2 (by decide +kernel) (Nat.le_of_ble_eq_true rfl) ?_
  generalize hN (mk c S) = n0
  generalize hZ (mk c S) = z0
  show J w (d + 2) m_G1_turns (n0, z0, some (.int ((x + gI S t 1) * (3 : Int32))), mk c (bgs S t [20, 10])) 0 [some (.ref t), some (.int x)] [] (mk c S)
  refine J.run b_G1_turns_0_2 k_G1_turns_0_2 rfl (show J w (d + 2) m_G1_turns (n0, z0, some (.int ((x + gI S t 1) * (3 : Int32))), mk c (bgs S t [20, 10])) 3 [some (.ref t), some (.int x)] [.int (20 : Int32), .ref t] (mk c S) from ?_)
  refine J.callU (y := m_G_begin) (o := m_G_begin) (x := (⟨"LeftTown$On", "begin", "(I)V"⟩ : MethodName)) (C := cN 6) (av := [.int (20 : Int32)]) (rest := []) (q := t) (lu_G1_7 rfl) d_G1_turns_3 (isC_t hT) (c_G_begin w (d + 1) c S t 6 20 hT h3) rfl (Nat.le_of_ble_eq_true rfl) (mk_le _ _ _) (show J w (d + 2) m_G1_turns (n0, z0, some (.int ((x + gI S t 1) * (3 : Int32))), mk c (bgs S t [20, 10])) 6 [some (.ref t), some (.int x)] [] (mk c (bgs S t [20])) from ?_)
  refine J.run b_G1_turns_6_2 k_G1_turns_6_2 rfl (show J w (d + 2) m_G1_turns (n0, z0, some (.int ((x + gI S t 1) * (3 : Int32))), mk c (bgs S t [20, 10])) 8 [some (.ref t), some (.int x)] [.int x, .ref t] (mk c (bgs S t [20])) from ?_)
  have hv := c_G_turns w d c (bgs S t [20]) t 6 x hT (Ok3.bgs [20] h3)
  rw [bgs_1, bgs_app] at hv
  simp only [List.cons_append, List.nil_append] at hv
  refine J.callSU (y := m_G_turns) (x := (⟨"LeftTown$Thing", "turns", "(I)I"⟩ : MethodName)) (C := cN 6) (av := [.int x]) (rest := []) (q := t) ls_G1_13 d_G1_turns_8 (isC_t hT) (hv) rfl (Nat.le_of_ble_eq_true rfl) (mk_le _ _ _) (show J w (d + 2) m_G1_turns (n0, z0, some (.int ((x + gI S t 1) * (3 : Int32))), mk c (bgs S t [20, 10])) 11 [some (.ref t), some (.int x)] [.int (x + gI S t 1)] (mk c (bgs S t [20, 10])) from ?_)
  refine J.run b_G1_turns_11_2 k_G1_turns_11_2 rfl (show J w (d + 2) m_G1_turns (n0, z0, some (.int ((x + gI S t 1) * (3 : Int32))), mk c (bgs S t [20, 10])) 13 [some (.ref t), some (.int x)] [.int ((x + gI S t 1) * (3 : Int32))] (mk c (bgs S t [20, 10])) from ?_)
  exact J.iret d_G1_turns_13 rfl rfl
def b_G3_turns_0_2 : List Ins := [(.aload_n 0, 0, 0, 0), (.bipush (50), 0, 0, 0)]
theorem k_G3_turns_0_2 : bok m_G3_turns 0 b_G3_turns_0_2 = true := by decide +kernel
theorem d_G3_turns_3 : decode m_G3_turns.2.1 3 = .ok (.invokevirtual 7, 3) := by decide +kernel
def b_G3_turns_6_2 : List Ins := [(.aload_n 0, 0, 0, 0), (.iload_n 1, 0, 0, 0)]
theorem k_G3_turns_6_2 : bok m_G3_turns 6 b_G3_turns_6_2 = true := by decide +kernel
theorem d_G3_turns_8 : decode m_G3_turns.2.1 8 = .ok (.invokespecial 13, 3) := by decide +kernel
def b_G3_turns_11_3 : List Ins := [(.aload_n 0, 0, 0, 0), (.getfield 17, 12, 0, 0), (.ixor, 0, 0, 0)]
theorem k_G3_turns_11_3 : bok m_G3_turns 11 b_G3_turns_11_3 = true := by decide +kernel
theorem d_G3_turns_16 : decode m_G3_turns.2.1 16 = .ok (.ireturn, 1) := by decide +kernel
theorem c_G3_turns (w : Wd) (d : Nat) (c : cx) (S : hs) (t : Nat) (x : Int32) (hT : Tg c t 8) (h3 : Ok3 S t) : Cl w (d + 2) m_G3_turns [.ref t, .int x] (mk c S) (some (.int ((x + gI S t 1) ^^^ gI S t 0))) (mk c (bgs S t [50, 10])) := by
  refine Cl.of (mk_le _ _ _).1 (mk_le _ _ _).2 (by decide +kernel) (Nat.le_of_ble_eq_true rfl) ?_
  generalize hN (mk c S) = n0
  generalize hZ (mk c S) = z0
  show J w (d + 2) m_G3_turns (n0, z0, some (.int ((x + gI S t 1) ^^^ gI S t 0)), mk c (bgs S t [50, 10])) 0 [some (.ref t), some (.int x)] [] (mk c S)
  refine J.run b_G3_turns_0_2 k_G3_turns_0_2 rfl (show J w (d + 2) m_G3_turns (n0, z0, some (.int ((x + gI S t 1) ^^^ gI S t 0)), mk c (bgs S t [50, 10])) 3 [some (.ref t), some (.int x)] [.int (50 : Int32), .ref t] (mk c S) from ?_)
  refine J.callU (y := m_G_begin) (o := m_G_begin) (x := (⟨"LeftTown$Sharp", "begin", "(I)V"⟩ : MethodName)) (C := cN 8) (av := [.int (50 : Int32)]) (rest := []) (q := t) (lu_G3_7 rfl) d_G3_turns_3 (isC_t hT) (c_G_begin w (d + 1) c S t 8 50 hT h3) rfl (Nat.le_of_ble_eq_true rfl) (mk_le _ _ _) (show J w (d + 2) m_G3_turns (n0, z0, some (.int ((x + gI S t 1) ^^^ gI S t 0)), mk c (bgs S t [50, 10])) 6 [some (.ref t), some (.int x)] [] (mk c (bgs S t [50])) from ?_)
  refine J.run b_G3_turns_6_2 k_G3_turns_6_2 rfl (show J w (d + 2) m_G3_turns (n0, z0, some (.int ((x + gI S t 1) ^^^ gI S t 0)), mk c (bgs S t [50, 10])) 8 [some (.ref t), some (.int x)] [.int x, .ref t] (mk c (bgs S t [50])) from ?_)
  have hv := c_G_turns w d c (bgs S t [50]) t 8 x hT (Ok3.bgs [50] h3)
  rw [bgs_1, bgs_app] at hv
  simp only [List.cons_append, List.nil_append] at hv
  refine J.callSU (y := m_G_turns) (x := (⟨"LeftTown$Left", "turns", "(I)I"⟩ : MethodName)) (C := cN 8) (av := [.int x]) (rest := []) (q := t) ls_G3_13 d_G3_turns_8 (isC_t hT) (hv) rfl (Nat.le_of_ble_eq_true rfl) (mk_le _ _ _) (show J w (d + 2) m_G3_turns (n0, z0, some (.int ((x + gI S t 1) ^^^ gI S t 0)), mk c (bgs S t [50, 10])) 11 [some (.ref t), some (.int x)] [.int (x + gI S t 1)] (mk c (bgs S t [50, 10])) from ?_)
  refine J.run b_G3_turns_11_3 k_G3_turns_11_3 rfl (And.intro (okO_t hT) (show J w (d + 2) m_G3_turns (n0, z0, some (.int ((x + gI S t 1) ^^^ gI S t 0)), mk c (bgs S t [50, 10])) 16 [some (.ref t), some (.int x)] [.int ((x + gI S t 1) ^^^ gI (bgs S t [50, 10]) t 0)] (mk c (bgs S t [50, 10])) from ?_))
  rw [bgs_0]
  exact J.iret d_G3_turns_16 rfl rfl
theorem cv_turns (w : Wd) (d : Nat) (c : cx) (S : hs) (t ci : Nat) (x : Int32) (hT : Tg c t ci) (h3 : Ok3 S t) : Cl w (d + 2) (mTu ci) [.ref t, .int x] (mk c S) (some (.int (vTu ci (gI S t 0) (gI S t 1) x))) (mk c (bgs S t (bTu ci))) := by
  rcases hT.five with rfl | rfl | rfl | rfl | rfl
  · exact c_G1_turns w d c S t x hT h3
  · exact c_G_turns w (d + 1) c S t 7 x hT h3
  · exact c_G3_turns w d c S t x hT h3
  · exact c_G_turns w (d + 1) c S t 9 x hT h3
  · exact c_G_turns w (d + 1) c S t 10 x hT h3
def b_G_goes_0_2 : List Ins := [(.aload_n 0, 0, 0, 0), (.bipush (11), 0, 0, 0)]
theorem k_G_goes_0_2 : bok m_G_goes 0 b_G_goes_0_2 = true := by decide +kernel
theorem d_G_goes_3 : decode m_G_goes.2.1 3 = .ok (.invokevirtual 25, 3) := by decide +kernel
def b_G_goes_6_2 : List Ins := [(.aload_n 0, 0, 0, 0), (.iload_n 1, 0, 0, 0)]
theorem k_G_goes_6_2 : bok m_G_goes 6 b_G_goes_6_2 = true := by decide +kernel
theorem d_G_goes_8 : decode m_G_goes.2.1 8 = .ok (.invokevirtual 29, 3) := by decide +kernel
def b_G_goes_11_2 : List Ins := [(.iconst (2), 0, 0, 0), (.imul, 0, 0, 0)]
theorem k_G_goes_11_2 : bok m_G_goes 11 b_G_goes_11_2 = true := by decide +kernel
theorem d_G_goes_13 : decode m_G_goes.2.1 13 = .ok (.ireturn, 1) := by decide +kernel
theorem c_G_goes (w : Wd) (d : Nat) (c : cx) (S : hs) (t ci : Nat) (x : Int32) (hT : Tg c t ci) (h3 : Ok3 S t) : Cl w (d + 3) m_G_goes [.ref t, .int x] (mk c S) (some (.int (vTu ci (gI S t 0) (gI S t 1) x * (2 : Int32)))) (mk c (bgs S t (11 :: bTu ci))) := by
  refine Cl.of (mk_le _ _ _).1 (mk_le _ _ _).2 (by decide +kernel) (Nat.le_of_ble_eq_true rfl) ?_
  generalize hN (mk c S) = n0
  generalize hZ (mk c S) = z0
  show J w (d + 3) m_G_goes (n0, z0, some (.int (vTu ci (gI S t 0) (gI S t 1) x * (2 : Int32))), mk c (bgs S t (11 :: bTu ci))) 0 [some (.ref t), some (.int x)] [] (mk c S)
  refine J.run b_G_goes_0_2 k_G_goes_0_2 rfl (show J w (d + 3) m_G_goes (n0, z0, some (.int (vTu ci (gI S t 0) (gI S t 1) x * (2 : Int32))), mk c (bgs S t (11 :: bTu ci))) 3 [some (.ref t), some (.int x)] [.int (11 : Int32), .ref t] (mk c S) from ?_)
  refine J.callU (y := m_G_begin) (o := m_G_begin) (x := (⟨"LeftTown$Thing", "begin", "(I)V"⟩ : MethodName)) (C := cN ci) (av := [.int (11 : Int32)]) (rest := []) (q := t) (lu_G_25 hT.five) d_G_goes_3 (isC_t hT) (c_G_begin w (d + 2) c S t ci 11 hT h3) rfl (Nat.le_of_ble_eq_true rfl) (mk_le _ _ _) (show J w (d + 3) m_G_goes (n0, z0, some (.int (vTu ci (gI S t 0) (gI S t 1) x * (2 : Int32))), mk c (bgs S t (11 :: bTu ci))) 6 [some (.ref t), some (.int x)] [] (mk c (bgs S t [11])) from ?_)
  refine J.run b_G_goes_6_2 k_G_goes_6_2 rfl (show J w (d + 3) m_G_goes (n0, z0, some (.int (vTu ci (gI S t 0) (gI S t 1) x * (2 : Int32))), mk c (bgs S t (11 :: bTu ci))) 8 [some (.ref t), some (.int x)] [.int x, .ref t] (mk c (bgs S t [11])) from ?_)
  have hv := cv_turns w d c (bgs S t [11]) t ci x hT (Ok3.bgs [11] h3)
  rw [bgs_0, bgs_1, bgs_app] at hv
  simp only [List.cons_append, List.nil_append] at hv
  refine J.callU (y := mTu ci) (o := m_G_turns) (x := (⟨"LeftTown$Thing", "turns", "(I)I"⟩ : MethodName)) (C := cN ci) (av := [.int x]) (rest := []) (q := t) (lu_G_29 hT.five) d_G_goes_8 (isC_t hT) (hv) rfl (Nat.le_of_ble_eq_true rfl) (mk_le _ _ _) (show J w (d + 3) m_G_goes (n0, z0, some (.int (vTu ci (gI S t 0) (gI S t 1) x * (2 : Int32))), mk c (bgs S t (11 :: bTu ci))) 11 [some (.ref t), some (.int x)] [.int (vTu ci (gI S t 0) (gI S t 1) x)] (mk c (bgs S t (11 :: bTu ci))) from ?_)
  refine J.run b_G_goes_11_2 k_G_goes_11_2 rfl (show J w (d + 3) m_G_goes (n0, z0, some (.int (vTu ci (gI S t 0) (gI S t 1) x * (2 : Int32))), mk c (bgs S t (11 :: bTu ci))) 13 [some (.ref t), some (.int x)] [.int (vTu ci (gI S t 0) (gI S t 1) x * (2 : Int32))] (mk c (bgs S t (11 :: bTu ci))) from ?_)
  exact J.iret d_G_goes_13 rfl rfl
def b_G2_goes_0_2 : List Ins := [(.aload_n 0, 0, 0, 0), (.bipush (30), 0, 0, 0)]
theorem k_G2_goes_0_2 : bok m_G2_goes 0 b_G2_goes_0_2 = true := by decide +kernel
theorem d_G2_goes_3 : decode m_G2_goes.2.1 3 = .ok (.invokevirtual 7, 3) := by decide +kernel
def b_G2_goes_6_2 : List Ins := [(.aload_n 0, 0, 0, 0), (.iload_n 1, 0, 0, 0)]
theorem k_G2_goes_6_2 : bok m_G2_goes 6 b_G2_goes_6_2 = true := by decide +kernel
theorem d_G2_goes_8 : decode m_G2_goes.2.1 8 = .ok (.invokespecial 13, 3) := by decide +kernel
def b_G2_goes_11_3 : List Ins := [(.aload_n 0, 0, 0, 0), (.getfield 17, 12, 1, 0), (.isub, 0, 0, 0)]
theorem k_G2_goes_11_3 : bok m_G2_goes 11 b_G2_goes_11_3 = true := by decide +kernel
theorem d_G2_goes_16 : decode m_G2_goes.2.1 16 = .ok (.ireturn, 1) := by decide +kernel
theorem c_G2_goes (w : Wd) (d : Nat) (c : cx) (S : hs) (t ci : Nat) (x : Int32) (hT : Tg c t ci) (hc : ci = 7 ∨ ci = 8) (h3 : Ok3 S t) : Cl w (d + 4) m_G2_goes [.ref t, .int x] (mk c S) (some (.int (vTu ci (gI S t 0) (gI S t 1) x * (2 : Int32) - gI S t 1))) (mk c (bgs S t (30 :: 11 :: bTu ci))) := by
  refine Cl.of (mk_le _ _ _).1 (mk_le _ _ _).2 (by decide +kernel) (Nat.le_of_ble_eq_true rfl) ?_
  generalize hN (mk c S) = n0
  generalize hZ (mk c S) = z0
  show J w (d + 4) m_G2_goes (n0, z0, some (.int (vTu ci (gI S t 0) (gI S t 1) x * (2 : Int32) - gI S t 1)), mk c (bgs S t (30 :: 11 :: bTu ci))) 0 [some (.ref t), some (.int x)] [] (mk c S)
  refine J.run b_G2_goes_0_2 k_G2_goes_0_2 rfl (show J w (d + 4) m_G2_goes (n0, z0, some (.int (vTu ci (gI S t 0) (gI S t 1) x * (2 : Int32) - gI S t 1)), mk c (bgs S t (30 :: 11 :: bTu ci))) 3 [some (.ref t), some (.int x)] [.int (30 : Int32), .ref t] (mk c S) from ?_)
  refine J.callU (y := m_G_begin) (o := m_G_begin) (x := (⟨"LeftTown$Left", "begin", "(I)V"⟩ : MethodName)) (C := cN ci) (av := [.int (30 : Int32)]) (rest := []) (q := t) (lu_G2_7 hc) d_G2_goes_3 (isC_t hT) (c_G_begin w (d + 3) c S t ci 30 hT h3) rfl (Nat.le_of_ble_eq_true rfl) (mk_le _ _ _) (show J w (d + 4) m_G2_goes (n0, z0, some (.int (vTu ci (gI S t 0) (gI S t 1) x * (2 : Int32) - gI S t 1)), mk c (bgs S t (30 :: 11 :: bTu ci))) 6 [some (.ref t), some (.int x)] [] (mk c (bgs S t [30])) from ?_)
  refine J.run b_G2_goes_6_2 k_G2_goes_6_2 rfl (show J w (d + 4) m_G2_goes (n0, z0, some (.int (vTu ci (gI S t 0) (gI S t 1) x * (2 : Int32) - gI S t 1)), mk c (bgs S t (30 :: 11 :: bTu ci))) 8 [some (.ref t), some (.int x)] [.int x, .ref t] (mk c (bgs S t [30])) from ?_)
  have hv := c_G_goes w d c (bgs S t [30]) t ci x hT (Ok3.bgs [30] h3)
  rw [bgs_0, bgs_1, bgs_app] at hv
  simp only [List.cons_append, List.nil_append] at hv
  refine J.callSU (y := m_G_goes) (x := (⟨"LeftTown$Thing", "goes", "(I)I"⟩ : MethodName)) (C := cN ci) (av := [.int x]) (rest := []) (q := t) ls_G2_13 d_G2_goes_8 (isC_t hT) (hv) rfl (Nat.le_of_ble_eq_true rfl) (mk_le _ _ _) (show J w (d + 4) m_G2_goes (n0, z0, some (.int (vTu ci (gI S t 0) (gI S t 1) x * (2 : Int32) - gI S t 1)), mk c (bgs S t (30 :: 11 :: bTu ci))) 11 [some (.ref t), some (.int x)] [.int (vTu ci (gI S t 0) (gI S t 1) x * (2 : Int32))] (mk c (bgs S t (30 :: 11 :: bTu ci))) from ?_)
  refine J.run b_G2_goes_11_3 k_G2_goes_11_3 rfl (And.intro (okO_t hT) (show J w (d + 4) m_G2_goes (n0, z0, some (.int (vTu ci (gI S t 0) (gI S t 1) x * (2 : Int32) - gI S t 1)), mk c (bgs S t (30 :: 11 :: bTu ci))) 16 [some (.ref t), some (.int x)] [.int (vTu ci (gI S t 0) (gI S t 1) x * (2 : Int32) - gI (bgs S t (30 :: 11 :: bTu ci)) t 1)] (mk c (bgs S t (30 :: 11 :: bTu ci))) from ?_))
  rw [bgs_1]
  exact J.iret d_G2_goes_16 rfl rfl
def b_G5_goes_0_2 : List Ins := [(.aload_n 0, 0, 0, 0), (.bipush (60), 0, 0, 0)]
theorem k_G5_goes_0_2 : bok m_G5_goes 0 b_G5_goes_0_2 = true := by decide +kernel
theorem d_G5_goes_3 : decode m_G5_goes.2.1 3 = .ok (.invokevirtual 7, 3) := by decide +kernel
def b_G5_goes_6_3 : List Ins := [(.iconst (0), 0, 0, 0), (.aload_n 0, 0, 0, 0), (.iload_n 1, 0, 0, 0)]
theorem k_G5_goes_6_3 : bok m_G5_goes 6 b_G5_goes_6_3 = true := by decide +kernel
theorem d_G5_goes_9 : decode m_G5_goes.2.1 9 = .ok (.invokespecial 13, 3) := by decide +kernel
def b_G5_goes_12_1 : List Ins := [(.isub, 0, 0, 0)]
theorem k_G5_goes_12_1 : bok m_G5_goes 12 b_G5_goes_12_1 = true := by decide +kernel
theorem d_G5_goes_13 : decode m_G5_goes.2.1 13 = .ok (.ireturn, 1) := by decide +kernel
theorem c_G5_goes (w : Wd) (d : Nat) (c : cx) (S : hs) (t : Nat) (x : Int32) (hT : Tg c t 10) (h3 : Ok3 S t) : Cl w (d + 4) m_G5_goes [.ref t, .int x] (mk c S) (some (.int ((0 : Int32) - vTu 10 (gI S t 0) (gI S t 1) x * (2 : Int32)))) (mk c (bgs S t (60 :: 11 :: bTu 10))) := by
  refine Cl.of (mk_le _ _ _).1 (mk_le _ _ _).2 (by decide +kernel) (Nat.le_of_ble_eq_true rfl) ?_
  generalize hN (mk c S) = n0
  generalize hZ (mk c S) = z0
  show J w (d + 4) m_G5_goes (n0, z0, some (.int ((0 : Int32) - vTu 10 (gI S t 0) (gI S t 1) x * (2 : Int32))), mk c (bgs S t (60 :: 11 :: bTu 10))) 0 [some (.ref t), some (.int x)] [] (mk c S)
  refine J.run b_G5_goes_0_2 k_G5_goes_0_2 rfl (show J w (d + 4) m_G5_goes (n0, z0, some (.int ((0 : Int32) - vTu 10 (gI S t 0) (gI S t 1) x * (2 : Int32))), mk c (bgs S t (60 :: 11 :: bTu 10))) 3 [some (.ref t), some (.int x)] [.int (60 : Int32), .ref t] (mk c S) from ?_)
  refine J.callU (y := m_G_begin) (o := m_G_begin) (x := (⟨"LeftTown$Round", "begin", "(I)V"⟩ : MethodName)) (C := cN 10) (av := [.int (60 : Int32)]) (rest := []) (q := t) (lu_G5_7 rfl) d_G5_goes_3 (isC_t hT) (c_G_begin w (d + 3) c S t 10 60 hT h3) rfl (Nat.le_of_ble_eq_true rfl) (mk_le _ _ _) (show J w (d + 4) m_G5_goes (n0, z0, some (.int ((0 : Int32) - vTu 10 (gI S t 0) (gI S t 1) x * (2 : Int32))), mk c (bgs S t (60 :: 11 :: bTu 10))) 6 [some (.ref t), some (.int x)] [] (mk c (bgs S t [60])) from ?_)
  refine J.run b_G5_goes_6_3 k_G5_goes_6_3 rfl (show J w (d + 4) m_G5_goes (n0, z0, some (.int ((0 : Int32) - vTu 10 (gI S t 0) (gI S t 1) x * (2 : Int32))), mk c (bgs S t (60 :: 11 :: bTu 10))) 9 [some (.ref t), some (.int x)] [.int x, .ref t, .int (0 : Int32)] (mk c (bgs S t [60])) from ?_)
  have hv := c_G_goes w d c (bgs S t [60]) t 10 x hT (Ok3.bgs [60] h3)
  rw [bgs_0, bgs_1, bgs_app] at hv
  simp only [List.cons_append, List.nil_append] at hv
  refine J.callSU (y := m_G_goes) (x := (⟨"LeftTown$Right", "goes", "(I)I"⟩ : MethodName)) (C := cN 10) (av := [.int x]) (rest := [.int (0 : Int32)]) (q := t) ls_G5_13 d_G5_goes_9 (isC_t hT) (hv) rfl (Nat.le_of_ble_eq_true rfl) (mk_le _ _ _) (show J w (d + 4) m_G5_goes (n0, z0, some (.int ((0 : Int32) - vTu 10 (gI S t 0) (gI S t 1) x * (2 : Int32))), mk c (bgs S t (60 :: 11 :: bTu 10))) 12 [some (.ref t), some (.int x)] [.int (vTu 10 (gI S t 0) (gI S t 1) x * (2 : Int32)), .int (0 : Int32)] (mk c (bgs S t (60 :: 11 :: bTu 10))) from ?_)
  refine J.run b_G5_goes_12_1 k_G5_goes_12_1 rfl (show J w (d + 4) m_G5_goes (n0, z0, some (.int ((0 : Int32) - vTu 10 (gI S t 0) (gI S t 1) x * (2 : Int32))), mk c (bgs S t (60 :: 11 :: bTu 10))) 13 [some (.ref t), some (.int x)] [.int ((0 : Int32) - vTu 10 (gI S t 0) (gI S t 1) x * (2 : Int32))] (mk c (bgs S t (60 :: 11 :: bTu 10))) from ?_)
  exact J.iret d_G5_goes_13 rfl rfl
theorem cv_goes (w : Wd) (d : Nat) (c : cx) (S : hs) (t ci : Nat) (x : Int32) (hT : Tg c t ci) (h3 : Ok3 S t) : Cl w (d + 4) (mGo ci) [.ref t, .int x] (mk c S) (some (.int (vGo ci (gI S t 0) (gI S t 1) x))) (mk c (bgs S t (bGo ci))) := by
  rcases hT.five with rfl | rfl | rfl | rfl | rfl
  · exact c_G_goes w (d + 1) c S t 6 x hT h3
  · exact c_G2_goes w d c S t 7 x hT (Or.inl rfl) h3
  · exact c_G2_goes w d c S t 8 x hT (Or.inr rfl) h3
  · exact c_G_goes w (d + 1) c S t 9 x hT h3
  · exact c_G5_goes w d c S t x hT h3
def b_G_sees_0_2 : List Ins := [(.aload_n 0, 0, 0, 0), (.bipush (12), 0, 0, 0)]
theorem k_G_sees_0_2 : bok m_G_sees 0 b_G_sees_0_2 = true := by decide +kernel
theorem d_G_sees_3 : decode m_G_sees.2.1 3 = .ok (.invokevirtual 25, 3) := by decide +kernel
def b_G_sees_6_7 : List Ins := [(.aload_n 0, 0, 0, 0), (.getfield 19, 12, 1, 0), (.aload_n 0, 0, 0, 0), (.getfield 15, 12, 0, 0), (.isub, 0, 0, 0), (.istore_n 2, 0, 0, 0), (.iload_n 2, 0, 0, 0)]
theorem k_G_sees_6_7 : bok m_G_sees 6 b_G_sees_6_7 = true := by decide +kernel
theorem d_G_sees_17 : decode m_G_sees.2.1 17 = .ok (.ifCond .ne (8), 3) := by decide +kernel
def b_G_sees_25_3 : List Ins := [(.iload_n 1, 0, 0, 0), (.iload_n 2, 0, 0, 0), (.idiv, 0, 0, 0)]
theorem k_G_sees_25_3 : bok m_G_sees 25 b_G_sees_25_3 = true := by decide +kernel
theorem d_G_sees_28 : decode m_G_sees.2.1 28 = .ok (.ireturn, 1) := by decide +kernel
def b_G_sees_20_1 : List Ins := [(.bipush (-15), 0, 0, 0)]
theorem k_G_sees_20_1 : bok m_G_sees 20 b_G_sees_20_1 = true := by decide +kernel
theorem d_G_sees_22 : decode m_G_sees.2.1 22 = .ok (.goto (6), 3) := by decide +kernel
theorem c_G_sees (w : Wd) (d : Nat) (c : cx) (S : hs) (t ci : Nat) (x : Int32) (hT : Tg c t ci) (h3 : Ok3 S t) : Cl w (d + 1) m_G_sees [.ref t, .int x] (mk c S) (some (.int (vS0 (gI S t 0) (gI S t 1) x))) (mk c (bgs S t [12])) := by
  refine Cl.of (mk_le _ _ _).1 (mk_le _ _ _).2 (by decide +kernel) (Nat.le_of_ble_eq_true rfl) ?_
  generalize hN (mk c S) = n0
  generalize hZ (mk c S) = z0
  show J w (d + 1) m_G_sees (n0, z0, some (.int (vS0 (gI S t 0) (gI S t 1) x)), mk c (bgs S t [12])) 0 [some (.ref t), some (.int x), none] [] (mk c S)
  refine J.run b_G_sees_0_2 k_G_sees_0_2 rfl (show J w (d + 1) m_G_sees (n0, z0, some (.int (vS0 (gI S t 0) (gI S t 1) x)), mk c (bgs S t [12])) 3 [some (.ref t), some (.int x), none] [.int (12 : Int32), .ref t] (mk c S) from ?_)
  refine J.callU (y := m_G_begin) (o := m_G_begin) (x := (⟨"LeftTown$Thing", "begin", "(I)V"⟩ : MethodName)) (C := cN ci) (av := [.int (12 : Int32)]) (rest := []) (q := t) (lu_G_25 hT.five) d_G_sees_3 (isC_t hT) (c_G_begin w d c S t ci 12 hT h3) rfl (Nat.le_of_ble_eq_true rfl) (mk_le _ _ _) (show J w (d + 1) m_G_sees (n0, z0, some (.int (vS0 (gI S t 0) (gI S t 1) x)), mk c (bgs S t [12])) 6 [some (.ref t), some (.int x), none] [] (mk c (bgs S t [12])) from ?_)
  refine J.run b_G_sees_6_7 k_G_sees_6_7 rfl (And.intro (okO_t hT) (And.intro (okO_t hT) (show J w (d + 1) m_G_sees (n0, z0, some (.int (vS0 (gI S t 0) (gI S t 1) x)), mk c (bgs S t [12])) 17 [some (.ref t), some (.int x), some (.int (gI (bgs S t [12]) t 1 - gI (bgs S t [12]) t 0))] [.int (gI (bgs S t [12]) t 1 - gI (bgs S t [12]) t 0)] (mk c (bgs S t [12])) from ?_)))
  rw [bgs_0, bgs_1]
  refine J.zne (tgt := 25) d_G_sees_17 rfl (fun q => ?_) (fun q => ?_)
  · rw [show vS0 (gI S t 0) (gI S t 1) x = x / (gI S t 1 - gI S t 0) from if_neg q]
    refine J.run b_G_sees_25_3 k_G_sees_25_3 rfl (And.intro q (show J w (d + 1) m_G_sees (n0, z0, some (.int (x / (gI S t 1 - gI S t 0))), mk c (bgs S t [12])) 28 [some (.ref t), some (.int x), some (.int (gI S t 1 - gI S t 0))] [.int (x / (gI S t 1 - gI S t 0))] (mk c (bgs S t [12])) from ?_))
    exact J.iret d_G_sees_28 rfl rfl
  · rw [show vS0 (gI S t 0) (gI S t 1) x = -15 from if_pos q]
    refine J.run b_G_sees_20_1 k_G_sees_20_1 rfl (show J w (d + 1) m_G_sees (n0, z0, some (.int (-15 : Int32)), mk c (bgs S t [12])) 22 [some (.ref t), some (.int x), some (.int (gI S t 1 - gI S t 0))] [.int (-15 : Int32)] (mk c (bgs S t [12])) from ?_)
    refine J.goto (tgt := 28) d_G_sees_22 rfl ?_
    exact J.iret d_G_sees_28 rfl rfl
def b_G4_sees_0_2 : List Ins := [(.aload_n 0, 0, 0, 0), (.bipush (40), 0, 0, 0)]
theorem k_G4_sees_0_2 : bok m_G4_sees 0 b_G4_sees_0_2 = true := by decide +kernel
theorem d_G4_sees_3 : decode m_G4_sees.2.1 3 = .ok (.invokevirtual 7, 3) := by decide +kernel
def b_G4_sees_6_4 : List Ins := [(.aload_n 0, 0, 0, 0), (.iload_n 1, 0, 0, 0), (.iconst (1), 0, 0, 0), (.iadd, 0, 0, 0)]
theorem k_G4_sees_6_4 : bok m_G4_sees 6 b_G4_sees_6_4 = true := by decide +kernel
theorem d_G4_sees_10 : decode m_G4_sees.2.1 10 = .ok (.invokespecial 13, 3) := by decide +kernel
theorem d_G4_sees_13 : decode m_G4_sees.2.1 13 = .ok (.ireturn, 1) := by decide +kernel
theorem c_G4_sees (w : Wd) (d : Nat) (c : cx) (S : hs) (t ci : Nat) (x : Int32) (hT : Tg c t ci) (hc : ci = 9 ∨ ci = 10) (h3 : Ok3 S t) : Cl w (d + 2) m_G4_sees [.ref t, .int x] (mk c S) (some (.int (vS0 (gI S t 0) (gI S t 1) (x + (1 : Int32))))) (mk c (bgs S t [40, 12])) := by
  refine Cl.of (mk_le _ _ _).1 (mk_le _ _ _).2 (by decide +kernel) (Nat.le_of_ble_eq_true rfl) ?_
  generalize hN (mk c S) = n0
  generalize hZ (mk c S) = z0
  show J w (d + 2) m_G4_sees (n0, z0, some (.int (vS0 (gI S t 0) (gI S t 1) (x + (1 : Int32)))), mk c (bgs S t [40, 12])) 0 [some (.ref t), some (.int x)] [] (mk c S)
  refine J.run b_G4_sees_0_2 k_G4_sees_0_2 rfl (show J w (d + 2) m_G4_sees (n0, z0, some (.int (vS0 (gI S t 0) (gI S t 1) (x + (1 : Int32)))), mk c (bgs S t [40, 12])) 3 [some (.ref t), some (.int x)] [.int (40 : Int32), .ref t] (mk c S) from ?_)
  refine J.callU (y := m_G_begin) (o := m_G_begin) (x := (⟨"LeftTown$Right", "begin", "(I)V"⟩ : MethodName)) (C := cN ci) (av := [.int (40 : Int32)]) (rest := []) (q := t) (lu_G4_7 hc) d_G4_sees_3 (isC_t hT) (c_G_begin w (d + 1) c S t ci 40 hT h3) rfl (Nat.le_of_ble_eq_true rfl) (mk_le _ _ _) (show J w (d + 2) m_G4_sees (n0, z0, some (.int (vS0 (gI S t 0) (gI S t 1) (x + (1 : Int32)))), mk c (bgs S t [40, 12])) 6 [some (.ref t), some (.int x)] [] (mk c (bgs S t [40])) from ?_)
  refine J.run b_G4_sees_6_4 k_G4_sees_6_4 rfl (show J w (d + 2) m_G4_sees (n0, z0, some (.int (vS0 (gI S t 0) (gI S t 1) (x + (1 : Int32)))), mk c (bgs S t [40, 12])) 10 [some (.ref t), some (.int x)] [.int (x + (1 : Int32)), .ref t] (mk c (bgs S t [40])) from ?_)
  have hv := c_G_sees w d c (bgs S t [40]) t ci (x + (1 : Int32)) hT (Ok3.bgs [40] h3)
  rw [bgs_0, bgs_1, bgs_app] at hv
  simp only [List.cons_append, List.nil_append] at hv
  refine J.callSU (y := m_G_sees) (x := (⟨"LeftTown$Thing", "sees", "(I)I"⟩ : MethodName)) (C := cN ci) (av := [.int (x + (1 : Int32))]) (rest := []) (q := t) ls_G4_13 d_G4_sees_10 (isC_t hT) (hv) rfl (Nat.le_of_ble_eq_true rfl) (mk_le _ _ _) (show J w (d + 2) m_G4_sees (n0, z0, some (.int (vS0 (gI S t 0) (gI S t 1) (x + (1 : Int32)))), mk c (bgs S t [40, 12])) 13 [some (.ref t), some (.int x)] [.int (vS0 (gI S t 0) (gI S t 1) (x + (1 : Int32)))] (mk c (bgs S t [40, 12])) from ?_)
  exact J.iret d_G4_sees_13 rfl rfl
def b_G5_sees_0_2 : List Ins := [(.aload_n 0, 0, 0, 0), (.bipush (61), 0, 0, 0)]
theorem k_G5_sees_0_2 : bok m_G5_sees 0 b_G5_sees_0_2 = true := by decide +kernel
theorem d_G5_sees_3 : decode m_G5_sees.2.1 3 = .ok (.invokevirtual 7, 3) := by decide +kernel
def b_G5_sees_6_2 : List Ins := [(.aload_n 0, 0, 0, 0), (.iload_n 1, 0, 0, 0)]
theorem k_G5_sees_6_2 : bok m_G5_sees 6 b_G5_sees_6_2 = true := by decide +kernel
theorem d_G5_sees_8 : decode m_G5_sees.2.1 8 = .ok (.invokespecial 17, 3) := by decide +kernel
def b_G5_sees_11_3 : List Ins := [(.aload_n 0, 0, 0, 0), (.aload_n 0, 0, 0, 0), (.getfield 20, 12, 0, 0)]
theorem k_G5_sees_11_3 : bok m_G5_sees 11 b_G5_sees_11_3 = true := by decide +kernel
theorem d_G5_sees_16 : decode m_G5_sees.2.1 16 = .ok (.invokevirtual 24, 3) := by decide +kernel
def b_G5_sees_19_1 : List Ins := [(.iadd, 0, 0, 0)]
theorem k_G5_sees_19_1 : bok m_G5_sees 19 b_G5_sees_19_1 = true := by decide +kernel
theorem d_G5_sees_20 : decode m_G5_sees.2.1 20 = .ok (.ireturn, 1) := by decide +kernel
theorem c_G5_sees (w : Wd) (d : Nat) (c : cx) (S : hs) (t : Nat) (x : Int32) (hT : Tg c t 10) (h3 : Ok3 S t) : Cl w (d + 3) m_G5_sees [.ref t, .int x] (mk c S) (some (.int (vS0 (gI S t 0) (gI S t 1) (x + (1 : Int32)) + (gI S t 0 + gI S t 1)))) (mk c (bgs S t [61, 40, 12, 10])) := by
  refine Cl.of (mk_le _ _ _).1 (mk_le _ _ _).2 (by decide +kernel) (Nat.le_of_ble_eq_true rfl) ?_
  generalize hN (mk c S) = n0
  generalize hZ (mk c S) = z0
  show J w (d + 3) m_G5_sees (n0, z0, some (.int (vS0 (gI S t 0) (gI S t 1) (x + (1 : Int32)) + (gI S t 0 + gI S t 1))), mk c (bgs S t [61, 40, 12, 10])) 0 [some (.ref t), some (.int x)] [] (mk c S)
  refine J.run b_G5_sees_0_2 k_G5_sees_0_2 rfl (show J w (d + 3) m_G5_sees (n0, z0, some (.int (vS0 (gI S t 0) (gI S t 1) (x + (1 : Int32)) + (gI S t 0 + gI S t 1))), mk c (bgs S t [61, 40, 12, 10])) 3 [some (.ref t), some (.int x)] [.int (61 : Int32), .ref t] (mk c S) from ?_)
  refine J.callU (y := m_G_begin) (o := m_G_begin) (x := (⟨"LeftTown$Round", "begin", "(I)V"⟩ : MethodName)) (C := cN 10) (av := [.int (61 : Int32)]) (rest := []) (q := t) (lu_G5_7 rfl) d_G5_sees_3 (isC_t hT) (c_G_begin w (d + 2) c S t 10 61 hT h3) rfl (Nat.le_of_ble_eq_true rfl) (mk_le _ _ _) (show J w (d + 3) m_G5_sees (n0, z0, some (.int (vS0 (gI S t 0) (gI S t 1) (x + (1 : Int32)) + (gI S t 0 + gI S t 1))), mk c (bgs S t [61, 40, 12, 10])) 6 [some (.ref t), some (.int x)] [] (mk c (bgs S t [61])) from ?_)
  refine J.run b_G5_sees_6_2 k_G5_sees_6_2 rfl (show J w (d + 3) m_G5_sees (n0, z0, some (.int (vS0 (gI S t 0) (gI S t 1) (x + (1 : Int32)) + (gI S t 0 + gI S t 1))), mk c (bgs S t [61, 40, 12, 10])) 8 [some (.ref t), some (.int x)] [.int x, .ref t] (mk c (bgs S t [61])) from ?_)
  have hv := c_G4_sees w d c (bgs S t [61]) t 10 x hT (Or.inr rfl) (Ok3.bgs [61] h3)
  rw [bgs_0, bgs_1, bgs_app] at hv
  simp only [List.cons_append, List.nil_append] at hv
  refine J.callSU (y := m_G4_sees) (x := (⟨"LeftTown$Right", "sees", "(I)I"⟩ : MethodName)) (C := cN 10) (av := [.int x]) (rest := []) (q := t) ls_G5_17 d_G5_sees_8 (isC_t hT) (hv) rfl (Nat.le_of_ble_eq_true rfl) (mk_le _ _ _) (show J w (d + 3) m_G5_sees (n0, z0, some (.int (vS0 (gI S t 0) (gI S t 1) (x + (1 : Int32)) + (gI S t 0 + gI S t 1))), mk c (bgs S t [61, 40, 12, 10])) 11 [some (.ref t), some (.int x)] [.int (vS0 (gI S t 0) (gI S t 1) (x + (1 : Int32)))] (mk c (bgs S t [61, 40, 12])) from ?_)
  refine J.run b_G5_sees_11_3 k_G5_sees_11_3 rfl (And.intro (okO_t hT) (show J w (d + 3) m_G5_sees (n0, z0, some (.int (vS0 (gI S t 0) (gI S t 1) (x + (1 : Int32)) + (gI S t 0 + gI S t 1))), mk c (bgs S t [61, 40, 12, 10])) 16 [some (.ref t), some (.int x)] [.int (gI (bgs S t [61, 40, 12]) t 0), .ref t, .int (vS0 (gI S t 0) (gI S t 1) (x + (1 : Int32)))] (mk c (bgs S t [61, 40, 12])) from ?_))
  rw [bgs_0]
  have hu := c_G_turns w (d + 1) c (bgs S t [61, 40, 12]) t 10 (gI S t 0) hT (Ok3.bgs [61, 40, 12] h3)
  rw [bgs_1, bgs_app] at hu
  simp only [List.cons_append, List.nil_append] at hu
  refine J.callU (y := m_G_turns) (o := m_G_turns) (x := (⟨"LeftTown$Round", "turns", "(I)I"⟩ : MethodName)) (C := cN 10) (av := [.int (gI S t 0)]) (rest := [.int (vS0 (gI S t 0) (gI S t 1) (x + (1 : Int32)))]) (q := t) (lu_G5_24 rfl) d_G5_sees_16 (isC_t hT) (hu) rfl (Nat.le_of_ble_eq_true rfl) (mk_le _ _ _) (show J w (d + 3) m_G5_sees (n0, z0, some (.int (vS0 (gI S t 0) (gI S t 1) (x + (1 : Int32)) + (gI S t 0 + gI S t 1))), mk c (bgs S t [61, 40, 12, 10])) 19 [some (.ref t), some (.int x)] [.int (gI S t 0 + gI S t 1), .int (vS0 (gI S t 0) (gI S t 1) (x + (1 : Int32)))] (mk c (bgs S t [61, 40, 12, 10])) from ?_)
  refine J.run b_G5_sees_19_1 k_G5_sees_19_1 rfl (show J w (d + 3) m_G5_sees (n0, z0, some (.int (vS0 (gI S t 0) (gI S t 1) (x + (1 : Int32)) + (gI S t 0 + gI S t 1))), mk c (bgs S t [61, 40, 12, 10])) 20 [some (.ref t), some (.int x)] [.int (vS0 (gI S t 0) (gI S t 1) (x + (1 : Int32)) + (gI S t 0 + gI S t 1))] (mk c (bgs S t [61, 40, 12, 10])) from ?_)
  exact J.iret d_G5_sees_20 rfl rfl
theorem cv_sees (w : Wd) (d : Nat) (c : cx) (S : hs) (t ci : Nat) (x : Int32) (hT : Tg c t ci) (h3 : Ok3 S t) : Cl w (d + 3) (mSe ci) [.ref t, .int x] (mk c S) (some (.int (vSe ci (gI S t 0) (gI S t 1) x))) (mk c (bgs S t (bSe ci))) := by
  rcases hT.five with rfl | rfl | rfl | rfl | rfl
  · exact c_G_sees w (d + 2) c S t 6 x hT h3
  · exact c_G_sees w (d + 2) c S t 7 x hT h3
  · exact c_G_sees w (d + 2) c S t 8 x hT h3
  · exact c_G4_sees w (d + 1) c S t 9 x hT (Or.inl rfl) h3
  · exact c_G5_sees w d c S t x hT h3
def b_G_tells_0_2 : List Ins := [(.aload_n 0, 0, 0, 0), (.bipush (13), 0, 0, 0)]
theorem k_G_tells_0_2 : bok m_G_tells 0 b_G_tells_0_2 = true := by decide +kernel
theorem d_G_tells_3 : decode m_G_tells.2.1 3 = .ok (.invokevirtual 25, 3) := by decide +kernel
def b_G_tells_6_2 : List Ins := [(.aload_n 0, 0, 0, 0), (.iload_n 1, 0, 0, 0)]
theorem k_G_tells_6_2 : bok m_G_tells 6 b_G_tells_6_2 = true := by decide +kernel
theorem d_G_tells_8 : decode m_G_tells.2.1 8 = .ok (.invokevirtual 33, 3) := by decide +kernel
def b_G_tells_11_3 : List Ins := [(.aload_n 0, 0, 0, 0), (.getfield 15, 12, 0, 0), (.ixor, 0, 0, 0)]
theorem k_G_tells_11_3 : bok m_G_tells 11 b_G_tells_11_3 = true := by decide +kernel
theorem d_G_tells_16 : decode m_G_tells.2.1 16 = .ok (.ireturn, 1) := by decide +kernel
theorem c_G_tells (w : Wd) (d : Nat) (c : cx) (S : hs) (t ci : Nat) (x : Int32) (hT : Tg c t ci) (h3 : Ok3 S t) : Cl w (d + 5) m_G_tells [.ref t, .int x] (mk c S) (some (.int (vGo ci (gI S t 0) (gI S t 1) x ^^^ gI S t 0))) (mk c (bgs S t (13 :: bGo ci))) := by
  refine Cl.of (mk_le _ _ _).1 (mk_le _ _ _).2 (by decide +kernel) (Nat.le_of_ble_eq_true rfl) ?_
  generalize hN (mk c S) = n0
  generalize hZ (mk c S) = z0
  show J w (d + 5) m_G_tells (n0, z0, some (.int (vGo ci (gI S t 0) (gI S t 1) x ^^^ gI S t 0)), mk c (bgs S t (13 :: bGo ci))) 0 [some (.ref t), some (.int x)] [] (mk c S)
  refine J.run b_G_tells_0_2 k_G_tells_0_2 rfl (show J w (d + 5) m_G_tells (n0, z0, some (.int (vGo ci (gI S t 0) (gI S t 1) x ^^^ gI S t 0)), mk c (bgs S t (13 :: bGo ci))) 3 [some (.ref t), some (.int x)] [.int (13 : Int32), .ref t] (mk c S) from ?_)
  refine J.callU (y := m_G_begin) (o := m_G_begin) (x := (⟨"LeftTown$Thing", "begin", "(I)V"⟩ : MethodName)) (C := cN ci) (av := [.int (13 : Int32)]) (rest := []) (q := t) (lu_G_25 hT.five) d_G_tells_3 (isC_t hT) (c_G_begin w (d + 4) c S t ci 13 hT h3) rfl (Nat.le_of_ble_eq_true rfl) (mk_le _ _ _) (show J w (d + 5) m_G_tells (n0, z0, some (.int (vGo ci (gI S t 0) (gI S t 1) x ^^^ gI S t 0)), mk c (bgs S t (13 :: bGo ci))) 6 [some (.ref t), some (.int x)] [] (mk c (bgs S t [13])) from ?_)
  refine J.run b_G_tells_6_2 k_G_tells_6_2 rfl (show J w (d + 5) m_G_tells (n0, z0, some (.int (vGo ci (gI S t 0) (gI S t 1) x ^^^ gI S t 0)), mk c (bgs S t (13 :: bGo ci))) 8 [some (.ref t), some (.int x)] [.int x, .ref t] (mk c (bgs S t [13])) from ?_)
  have hv := cv_goes w d c (bgs S t [13]) t ci x hT (Ok3.bgs [13] h3)
  rw [bgs_0, bgs_1, bgs_app] at hv
  simp only [List.cons_append, List.nil_append] at hv
  refine J.callU (y := mGo ci) (o := m_G_goes) (x := (⟨"LeftTown$Thing", "goes", "(I)I"⟩ : MethodName)) (C := cN ci) (av := [.int x]) (rest := []) (q := t) (lu_G_33 hT.five) d_G_tells_8 (isC_t hT) (hv) rfl (Nat.le_of_ble_eq_true rfl) (mk_le _ _ _) (show J w (d + 5) m_G_tells (n0, z0, some (.int (vGo ci (gI S t 0) (gI S t 1) x ^^^ gI S t 0)), mk c (bgs S t (13 :: bGo ci))) 11 [some (.ref t), some (.int x)] [.int (vGo ci (gI S t 0) (gI S t 1) x)] (mk c (bgs S t (13 :: bGo ci))) from ?_)
  refine J.run b_G_tells_11_3 k_G_tells_11_3 rfl (And.intro (okO_t hT) (show J w (d + 5) m_G_tells (n0, z0, some (.int (vGo ci (gI S t 0) (gI S t 1) x ^^^ gI S t 0)), mk c (bgs S t (13 :: bGo ci))) 16 [some (.ref t), some (.int x)] [.int (vGo ci (gI S t 0) (gI S t 1) x ^^^ gI (bgs S t (13 :: bGo ci)) t 0)] (mk c (bgs S t (13 :: bGo ci))) from ?_))
  rw [bgs_0]
  exact J.iret d_G_tells_16 rfl rfl
def b_G3_tells_0_2 : List Ins := [(.aload_n 0, 0, 0, 0), (.bipush (51), 0, 0, 0)]
theorem k_G3_tells_0_2 : bok m_G3_tells 0 b_G3_tells_0_2 = true := by decide +kernel
theorem d_G3_tells_3 : decode m_G3_tells.2.1 3 = .ok (.invokevirtual 7, 3) := by decide +kernel
def b_G3_tells_6_2 : List Ins := [(.aload_n 0, 0, 0, 0), (.iload_n 1, 0, 0, 0)]
theorem k_G3_tells_6_2 : bok m_G3_tells 6 b_G3_tells_6_2 = true := by decide +kernel
theorem d_G3_tells_8 : decode m_G3_tells.2.1 8 = .ok (.invokespecial 21, 3) := by decide +kernel
def b_G3_tells_11_3 : List Ins := [(.aload_n 0, 0, 0, 0), (.aload_n 0, 0, 0, 0), (.getfield 17, 12, 0, 0)]
theorem k_G3_tells_11_3 : bok m_G3_tells 11 b_G3_tells_11_3 = true := by decide +kernel
theorem d_G3_tells_16 : decode m_G3_tells.2.1 16 = .ok (.invokevirtual 24, 3) := by decide +kernel
def b_G3_tells_19_1 : List Ins := [(.iadd, 0, 0, 0)]
theorem k_G3_tells_19_1 : bok m_G3_tells 19 b_G3_tells_19_1 = true := by decide +kernel
theorem d_G3_tells_20 : decode m_G3_tells.2.1 20 = .ok (.ireturn, 1) := by decide +kernel
set_option maxHeartbeats 8000000 in
theorem c_G3_tells (w : Wd) (d : Nat) (c : cx) (S : hs) (t : Nat) (x : Int32) (hT : Tg c t 8) (h3 : Ok3 S t) : Cl w (d + 6) m_G3_tells [.ref t, .int x] (mk c S) (some (.int ((vGo 8 (gI S t 0) (gI S t 1) x ^^^ gI S t 0) + vS0 (gI S t 0) (gI S t 1) (gI S t 0)))) (mk c (bgs S t [51, 13, 30, 11, 50, 10, 12])) := by
  refine Cl.of (mk_le _ _ _).1 (mk_le _ _ _).2 (by decide +kernel) (Nat.le_of_ble_eq_true rfl) ?_
  generalize hN (mk c S) = n0
  generalize hZ (mk c S) = z0
  show J w (d + 6) m_G3_tells (n0, z0, some (.int ((vGo 8 (gI S t 0) (gI S t 1) x ^^^ gI S t 0) + vS0 (gI S t 0) (gI S t 1) (gI S t 0))), mk c (bgs S t [51, 13, 30, 11, 50, 10, 12])) 0 [some (.ref t), some (.int x)] [] (mk c S)
  refine J.run b_G3_tells_0_2 k_G3_tells_0_2 rfl (show J w (d + 6) m_G3_tells (n0, z0, some (.int ((vGo 8 (gI S t 0) (gI S t 1) x ^^^ gI S t 0) + vS0 (gI S t 0) (gI S t 1) (gI S t 0))), mk c (bgs S t [51, 13, 30, 11, 50, 10, 12])) 3 [some (.ref t), some (.int x)] [.int (51 : Int32), .ref t] (mk c S) from ?_)
  refine J.callU (y := m_G_begin) (o := m_G_begin) (x := (⟨"LeftTown$Sharp", "begin", "(I)V"⟩ : MethodName)) (C := cN 8) (av := [.int (51 : Int32)]) (rest := []) (q := t) (lu_G3_7 rfl) d_G3_tells_3 (isC_t hT) (c_G_begin w (d + 5) c S t 8 51 hT h3) rfl (Nat.le_of_ble_eq_true rfl) (mk_le _ _ _) (show J w (d + 6) m_G3_tells (n0, z0, some (.int ((vGo 8 (gI S t 0) (gI S t 1) x ^^^ gI S t 0) + vS0 (gI S t 0) (gI S t 1) (gI S t 0))), mk c (bgs S t [51, 13, 30, 11, 50, 10, 12])) 6 [some (.ref t), some (.int x)] [] (mk c (bgs S t [51])) from ?_)
  refine J.run b_G3_tells_6_2 k_G3_tells_6_2 rfl (show J w (d + 6) m_G3_tells (n0, z0, some (.int ((vGo 8 (gI S t 0) (gI S t 1) x ^^^ gI S t 0) + vS0 (gI S t 0) (gI S t 1) (gI S t 0))), mk c (bgs S t [51, 13, 30, 11, 50, 10, 12])) 8 [some (.ref t), some (.int x)] [.int x, .ref t] (mk c (bgs S t [51])) from ?_)
  have hv := c_G_tells w d c (bgs S t [51]) t 8 x hT (Ok3.bgs [51] h3)
  rw [bgs_0, bgs_1, bgs_app] at hv
  simp only [List.cons_append, List.nil_append] at hv
  have hl : bGo 8 = [30, 11, 50, 10] := rfl
  rw [hl] at hv
  refine J.callSU (y := m_G_tells) (x := (⟨"LeftTown$Left", "tells", "(I)I"⟩ : MethodName)) (C := cN 8) (av := [.int x]) (rest := []) (q := t) ls_G3_21 d_G3_tells_8 (isC_t hT) (hv) rfl (Nat.le_of_ble_eq_true rfl) (mk_le _ _ _) (show J w (d + 6) m_G3_tells (n0, z0, some (.int ((vGo 8 (gI S t 0) (gI S t 1) x ^^^ gI S t 0) + vS0 (gI S t 0) (gI S t 1) (gI S t 0))), mk c (bgs S t [51, 13, 30, 11, 50, 10, 12])) 11 [some (.ref t), some (.int x)] [.int (vGo 8 (gI S t 0) (gI S t 1) x ^^^ gI S t 0)] (mk c (bgs S t [51, 13, 30, 11, 50, 10])) from ?_)
  refine J.run b_G3_tells_11_3 k_G3_tells_11_3 rfl (And.intro (okO_t hT) (show J w (d + 6) m_G3_tells (n0, z0, some (.int ((vGo 8 (gI S t 0) (gI S t 1) x ^^^ gI S t 0) + vS0 (gI S t 0) (gI S t 1) (gI S t 0))), mk c (bgs S t [51, 13, 30, 11, 50, 10, 12])) 16 [some (.ref t), some (.int x)] [.int (gI (bgs S t [51, 13, 30, 11, 50, 10]) t 0), .ref t, .int (vGo 8 (gI S t 0) (gI S t 1) x ^^^ gI S t 0)] (mk c (bgs S t [51, 13, 30, 11, 50, 10])) from ?_))
  rw [bgs_0]
  have hu := c_G_sees w (d + 4) c (bgs S t [51, 13, 30, 11, 50, 10]) t 8 (gI S t 0) hT (Ok3.bgs [51, 13, 30, 11, 50, 10] h3)
  rw [bgs_0, bgs_1, bgs_app] at hu
  simp only [List.cons_append, List.nil_append] at hu
  refine J.callU (y := m_G_sees) (o := m_G_sees) (x := (⟨"LeftTown$Sharp", "sees", "(I)I"⟩ : MethodName)) (C := cN 8) (av := [.int (gI S t 0)]) (rest := [.int (vGo 8 (gI S t 0) (gI S t 1) x ^^^ gI S t 0)]) (q := t) (lu_G3_24 rfl) d_G3_tells_16 (isC_t hT) (hu) rfl (Nat.le_of_ble_eq_true rfl) (mk_le _ _ _) (show J w (d + 6) m_G3_tells (n0, z0, some (.int ((vGo 8 (gI S t 0) (gI S t 1) x ^^^ gI S t 0) + vS0 (gI S t 0) (gI S t 1) (gI S t 0))), mk c (bgs S t [51, 13, 30, 11, 50, 10, 12])) 19 [some (.ref t), some (.int x)] [.int (vS0 (gI S t 0) (gI S t 1) (gI S t 0)), .int (vGo 8 (gI S t 0) (gI S t 1) x ^^^ gI S t 0)] (mk c (bgs S t [51, 13, 30, 11, 50, 10, 12])) from ?_)
  refine J.run b_G3_tells_19_1 k_G3_tells_19_1 rfl (show J w (d + 6) m_G3_tells (n0, z0, some (.int ((vGo 8 (gI S t 0) (gI S t 1) x ^^^ gI S t 0) + vS0 (gI S t 0) (gI S t 1) (gI S t 0))), mk c (bgs S t [51, 13, 30, 11, 50, 10, 12])) 20 [some (.ref t), some (.int x)] [.int ((vGo 8 (gI S t 0) (gI S t 1) x ^^^ gI S t 0) + vS0 (gI S t 0) (gI S t 1) (gI S t 0))] (mk c (bgs S t [51, 13, 30, 11, 50, 10, 12])) from ?_)
  exact J.iret d_G3_tells_20 rfl rfl
theorem cv_tells (w : Wd) (d : Nat) (c : cx) (S : hs) (t ci : Nat) (x : Int32) (hT : Tg c t ci) (h3 : Ok3 S t) : Cl w (d + 6) (mTe ci) [.ref t, .int x] (mk c S) (some (.int (vTe ci (gI S t 0) (gI S t 1) x))) (mk c (bgs S t (bTe ci))) := by
  rcases hT.five with rfl | rfl | rfl | rfl | rfl
  · exact c_G_tells w (d + 1) c S t 6 x hT h3
  · exact c_G_tells w (d + 1) c S t 7 x hT h3
  · exact c_G3_tells w d c S t x hT h3
  · exact c_G_tells w (d + 1) c S t 9 x hT h3
  · exact c_G_tells w (d + 1) c S t 10 x hT h3
