/-! Shelves. -/
section
variable {k : cx} {S S1 S2 T : hs} {m m' : Nat → Int32} {l : Lz}
theorem hold2 (h : Inv k S) {s : Nat} (hs4 : s < 4) {a b c d e : Int32} (hr : a = 0 ∨ (a = 1 ∧ ∃ f t : Nat, f < 40 ∧ t < 40 ∧ b = iN f ∧ c = iN t ∧ d = iN (40 * f + t)) ∨ (a = 2 ∧ b = d ∧ c = e ∧ 0 ≤ d.toInt ∧ d.toInt ≤ 4)) : Inv k (uI (uI (uI (uI (uI (uI S 167 s a) 168 s b) 169 s c) 209 s a) 210 s d) 211 s e) := by
  refine h.hst (fun x i q1 q2 => by rw [gI_ua (by omega), gI_ua (by omega), gI_ua (by omega), gI_ua (by omega), gI_ua (by omega), gI_ua (by omega)]) (h.2.2.2.2.1.cg (fun x i q => by rw [gI_ua (by omega), gI_ua (by omega), gI_ua (by omega), gI_ua (by omega), gI_ua (by omega), gI_ua (by omega)]) (fun _ _ _ _ => rfl)) ?_
  intro t ht
  have g := h.2.2.2.2.2.1 t ht
  have e1 : gI (uI (uI (uI (uI (uI (uI S 167 s a) 168 s b) 169 s c) 209 s a) 210 s d) 211 s e) 167 t = if t = s then a else gI S 167 t := by
    rw [gI_ua (by omega), gI_ua (by omega), gI_ua (by omega), gI_ua (by omega), gI_ua (by omega), gI_u]; grind
  have e2 : gI (uI (uI (uI (uI (uI (uI S 167 s a) 168 s b) 169 s c) 209 s a) 210 s d) 211 s e) 168 t = if t = s then b else gI S 168 t := by
    rw [gI_ua (by omega), gI_ua (by omega), gI_ua (by omega), gI_ua (by omega), gI_u, gI_ua (by omega)]; grind
  have e3 : gI (uI (uI (uI (uI (uI (uI S 167 s a) 168 s b) 169 s c) 209 s a) 210 s d) 211 s e) 169 t = if t = s then c else gI S 169 t := by
    rw [gI_ua (by omega), gI_ua (by omega), gI_ua (by omega), gI_u, gI_ua (by omega), gI_ua (by omega)]; grind
  have e4 : gI (uI (uI (uI (uI (uI (uI S 167 s a) 168 s b) 169 s c) 209 s a) 210 s d) 211 s e) 209 t = if t = s then a else gI S 209 t := by
    rw [gI_ua (by omega), gI_ua (by omega), gI_u, gI_ua (by omega), gI_ua (by omega), gI_ua (by omega)]; grind
  have e5 : gI (uI (uI (uI (uI (uI (uI S 167 s a) 168 s b) 169 s c) 209 s a) 210 s d) 211 s e) 210 t = if t = s then d else gI S 210 t := by
    rw [gI_ua (by omega), gI_u, gI_ua (by omega), gI_ua (by omega), gI_ua (by omega), gI_ua (by omega)]; grind
  have e6 : gI (uI (uI (uI (uI (uI (uI S 167 s a) 168 s b) 169 s c) 209 s a) 210 s d) 211 s e) 211 t = if t = s then e else gI S 211 t := by
    rw [gI_u, gI_ua (by omega), gI_ua (by omega), gI_ua (by omega), gI_ua (by omega), gI_ua (by omega)]; grind
  rw [e1, e2, e3, e4, e5, e6]
  by_cases z : t = s
  · simp only [if_pos z]
    exact ⟨trivial, hr⟩
  · simp only [if_neg z]
    exact g
theorem pH_hold {s : Nat} (hs4 : s < 4) (a b c : Int32) : f_H_hold S (iN s) a b c = some (1, uI (uI (uI S 167 s a) 168 s b) 169 s c) := by
  unfold f_H_hold
  rw [ck_of (iN_b (by omega) (by decide)), iN_c (by omega)]
theorem q_shelf (h : Inv k S) (x y f t : Int32) : Q2 k S (f_X_shelf S x y f t) (fun T => f_M_shelf T x y f t) := by
  obtain ⟨m, l, ht⟩ := h.1
  have hc := ht.1
  have hn := ht.2.1
  have hG := h.2.2.2.2.2.1
  by_cases q : 0 ≤ x.toInt ∧ x.toInt ≤ 3
  · obtain ⟨s, rfl, hs, es⟩ := iN_of q.1
    have hs4 : s < 4 := by omega
    have is4 : inb (iN s) 4 = true := iN_b hs4 (by decide)
    have cs4 : (iN s).toNatClampNeg = s := iN_c (by omega)
    by_cases q1 : 0 ≤ y.toInt ∧ y.toInt ≤ 2
    · obtain ⟨w, rfl, hw, ew⟩ := iN_of q1.1
      have : w = 0 ∨ w = 1 ∨ w = 2 := by omega
      rcases this with rfl | rfl | rfl
      · have x0 : f_X_shelf S (iN s) (iN 0) f t = bd (f_X_shelveTurn S (iN s) f t) fun r6 S7 => some (r6, S7) := by
          unfold f_X_shelf
          rw [(sh_y q).2.1, bd_s, if_neg (by decide), if_pos (by decide)]
        have m0 : ∀ S, f_M_shelf S (iN s) (iN 0) f t = bd (f_M_isIndex S f) fun r34 S35 => (if r34 = 0 then some ((-1 : Int32), S35) else bd (f_M_isIndex S35 t) fun r38 S39 => (if r38 = 0 then some ((-1 : Int32), S39) else jn_M_shelf_51 S39 (iN s) (iN 0) f t)) := by
          intro S
          unfold f_M_shelf
          rw [(sh_y q).2.2.2, bd_s, if_neg (by decide), in_y tl0 tl2 q1, bd_s, if_neg (by decide), if_neg (by decide), if_pos (by decide)]
        by_cases p1 : 0 ≤ f.toInt ∧ f.toInt ≤ 39
        · by_cases p2 : 0 ≤ t.toInt ∧ t.toInt ≤ 39
          · have hl := tkd_l (m := m) f t
            by_cases z : tkd m f t = 0
            · refine Q2.same (r := -3) h ?_ ?_
              · rw [x0]
                unfold f_X_shelveTurn
                rw [(isCN_y p1).1, bd_s, if_neg (by decide), (isCN_y p2).1, bd_s, if_neg (by decide), pT_turnNow hc, bd_s, if_pos z, if_pos rfl, bd_s]
              · show f_M_shelf S _ _ _ _ = _
                rw [m0, (isCN_y p1).2, bd_s, if_neg (by decide), (isCN_y p2).2, bd_s, if_neg (by decide)]
                unfold jn_M_shelf_51
                rw [if_pos (by decide), pM_kindOf hn, bd_s, if_z (by omega), if_pos z]
            · obtain ⟨f, rfl, hf, ef⟩ := iN_of p1.1
              obtain ⟨t, rfl, htt, et⟩ := iN_of p2.1
              have fr : Fr (fun a => 167 ≤ a ∧ a < 170) S (uI (uI (uI S 167 s 1) 168 s (iN f)) 169 s (iN t)) := ((Fr.rfl'.uI (by omega)).uI (by omega)).uI (by omega)
              have hn1 := hn.fr fr (by omega)
              have e40 : (40 : Int32) * iN f + iN t = iN (40 * f + t) := by show iN 40 * iN f + iN t = _; rw [iN_m, iN_a]
              refine ⟨1, uI (uI (uI S 167 s 1) 168 s (iN f)) 169 s (iN t), uI (uI (uI (uI (uI (uI S 167 s 1) 168 s (iN f)) 169 s (iN t)) 209 s 1) 210 s (iN (40 * f + t))) 211 s 0, ?_, ?_, fun j => by rw [gI_ua (by omega), gI_ua (by omega), gI_ua (by omega)], hold2 h hs4 (Or.inr (Or.inl ⟨rfl, f, t, by omega, by omega, rfl, rfl, rfl⟩))⟩
              · rw [x0]
                unfold f_X_shelveTurn
                rw [(isCN_y p1).1, bd_s, if_neg (by decide), (isCN_y p2).1, bd_s, if_neg (by decide), pT_turnNow hc, bd_s, if_neg ((m1ne hl).mpr z), pH_hold hs4, bd_s, bd_s]
              · show f_M_shelf (uI (uI (uI S 167 s 1) 168 s (iN f)) 169 s (iN t)) _ _ _ _ = _
                rw [m0, (isCN_y p1).2, bd_s, if_neg (by decide), (isCN_y p2).2, bd_s, if_neg (by decide)]
                unfold jn_M_shelf_51
                rw [if_pos (by decide), pM_kindOf hn1, bd_s, if_z (by omega), if_neg z]
                unfold jn_M_shelf_68 jn_M_shelf_101 jn_M_shelf_136
                rw [if_pos (by decide), is4, ck_t, if_pos (by decide), ck_t, if_neg (by decide), ck_t, cs4, e40]
          · refine Q2.same (r := -1) h ?_ ?_
            · rw [x0]
              unfold f_X_shelveTurn
              rw [(isCN_y p1).1, bd_s, if_neg (by decide), (isCN_n p2).1, bd_s, if_pos rfl, bd_s]
            · show f_M_shelf S _ _ _ _ = _
              rw [m0, (isCN_y p1).2, bd_s, if_neg (by decide), (isCN_n p2).2, bd_s, if_pos rfl]
        · refine Q2.same (r := -1) h ?_ ?_
          · rw [x0]
            unfold f_X_shelveTurn
            rw [(isCN_n p1).1, bd_s, if_pos rfl, bd_s]
          · show f_M_shelf S _ _ _ _ = _
            rw [m0, (isCN_n p1).2, bd_s, if_pos rfl]
      · by_cases p1 : 0 ≤ f.toInt ∧ f.toInt ≤ 3
        · obtain ⟨g, rfl, hg, eg⟩ := iN_of p1.1
          have ig4 : inb (iN g) 4 = true := iN_b (by omega) (by decide)
          have cg4 : (iN g).toNatClampNeg = g := iN_c (by omega)
          obtain ⟨h1, h2, h3, h4, h5⟩ := h.2.2.2.2.1 g (by omega)
          have j101 : ∀ T, jn_M_shelf_101 T (iN s) (iN 1) (iN g) t = some (1, uI (uI T 210 s (gI T 207 g)) 211 s (gI T 208 g)) := by
            intro T
            unfold jn_M_shelf_101 jn_M_shelf_136
            rw [if_neg (by decide), if_pos (by decide), ig4, ck_t, is4, ck_t, if_pos (by decide), ck_t, ck_t, cs4, cg4, gI_ua (by omega)]
          have m0 : ∀ S, f_M_shelf S (iN s) (iN 1) (iN g) t = if gI S 207 g < 0 then some ((1 : Int32), uI (uI (uI S 209 s 0) 210 s (gI S 207 g)) 211 s (gI S 208 g)) else some ((1 : Int32), uI (uI (uI S 209 s 2) 210 s (gI S 207 g)) 211 s (gI S 208 g)) := by
            intro S
            unfold f_M_shelf
            rw [(sh_y q).2.2.2, bd_s, if_neg (by decide), in_y tl0 tl2 q1, bd_s, if_neg (by decide), if_pos (by decide), (sh_y p1).2.2.1, bd_s, if_neg (by decide), if_neg (by decide)]
            unfold jn_M_shelf_51
            rw [if_neg (by decide)]
            unfold jn_M_shelf_68
            rw [if_neg (by decide), if_pos (by decide), ig4, ck_t, is4, ck_t, ck_t, cg4, cs4, j101, j101, gI_ua (by omega), gI_ua (by omega), gI_ua (by omega), gI_ua (by omega)]
          have x0 : f_X_shelf S (iN s) (iN 1) (iN g) t = if gI S 207 g = -1 then some ((1 : Int32), uI (uI (uI S 167 s 0) 168 s (gI S 207 g)) 169 s (gI S 208 g)) else some ((1 : Int32), uI (uI (uI S 167 s 2) 168 s (gI S 207 g)) 169 s (gI S 208 g)) := by
            unfold f_X_shelf
            rw [(sh_y q).2.1, bd_s, if_neg (by decide), if_neg (by decide), if_pos (by decide), (sh_y p1).1, bd_s, if_neg (by decide)]
            unfold f_H_shelveRow
            rw [ig4, ck_t, cg4, h1, h2, pH_hold hs4, pH_hold hs4, bd_s, bd_s]
            split <;> rfl
          rcases nI32 h3.1 with hm | hm
          · refine ⟨1, uI (uI (uI S 167 s 0) 168 s (gI S 207 g)) 169 s (gI S 208 g), uI (uI (uI (uI (uI (uI S 167 s 0) 168 s (gI S 207 g)) 169 s (gI S 208 g)) 209 s 0) 210 s (gI S 207 g)) 211 s (gI S 208 g), ?_, ?_, fun j => by rw [gI_ua (by omega), gI_ua (by omega), gI_ua (by omega)], hold2 h hs4 (Or.inl rfl)⟩
            · rw [x0, if_pos hm]
            · show f_M_shelf (uI (uI (uI S 167 s 0) 168 s (gI S 207 g)) 169 s (gI S 208 g)) _ _ _ _ = _
              rw [m0, gI_ua (by omega), gI_ua (by omega), gI_ua (by omega), gI_ua (by omega), gI_ua (by omega), gI_ua (by omega), if_pos (by rw [hm]; decide)]
          · have hm' : ¬ gI S 207 g = -1 := fun z => by rw [z] at hm; exact absurd hm (by decide)
            refine ⟨1, uI (uI (uI S 167 s 2) 168 s (gI S 207 g)) 169 s (gI S 208 g), uI (uI (uI (uI (uI (uI S 167 s 2) 168 s (gI S 207 g)) 169 s (gI S 208 g)) 209 s 2) 210 s (gI S 207 g)) 211 s (gI S 208 g), ?_, ?_, fun j => by rw [gI_ua (by omega), gI_ua (by omega), gI_ua (by omega)], hold2 h hs4 (Or.inr (Or.inr ⟨rfl, rfl, rfl, hm, h3.2⟩))⟩
            · rw [x0, if_neg hm']
            · show f_M_shelf (uI (uI (uI S 167 s 2) 168 s (gI S 207 g)) 169 s (gI S 208 g)) _ _ _ _ = _
              rw [m0, gI_ua (by omega), gI_ua (by omega), gI_ua (by omega), gI_ua (by omega), gI_ua (by omega), gI_ua (by omega), if_neg (lt_n rfl tl0 hm)]
        · refine Q2.same (r := -1) h ?_ ?_
          · unfold f_X_shelf
            rw [(sh_y q).2.1, bd_s, if_neg (by decide), if_neg (by decide), if_pos (by decide), (sh_n p1).1, bd_s, if_pos rfl]
          · show f_M_shelf S _ _ _ _ = _
            unfold f_M_shelf
            rw [(sh_y q).2.2.2, bd_s, if_neg (by decide), in_y tl0 tl2 q1, bd_s, if_neg (by decide), if_pos (by decide), (sh_n p1).2.2.1, bd_s, if_pos rfl]
      · refine ⟨1, uI (uI (uI S 167 s 0) 168 s 0) 169 s 0, uI (uI (uI (uI (uI (uI S 167 s 0) 168 s 0) 169 s 0) 209 s 0) 210 s 0) 211 s 0, ?_, ?_, fun j => by rw [gI_ua (by omega), gI_ua (by omega), gI_ua (by omega)], hold2 h hs4 (Or.inl rfl)⟩
        · unfold f_X_shelf
          rw [(sh_y q).2.1, bd_s, if_neg (by decide), if_neg (by decide), if_neg (by decide), if_pos (by decide), pH_hold hs4, bd_s]
        · show f_M_shelf (uI (uI (uI S 167 s 0) 168 s 0) 169 s 0) _ _ _ _ = _
          unfold f_M_shelf
          rw [(sh_y q).2.2.2, bd_s, if_neg (by decide), in_y tl0 tl2 q1, bd_s, if_neg (by decide), if_neg (by decide), if_neg (by decide)]
          unfold jn_M_shelf_51
          rw [if_neg (by decide)]
          unfold jn_M_shelf_68 jn_M_shelf_101 jn_M_shelf_136
          rw [if_neg (by decide), if_neg (by decide), is4, ck_t, if_neg (by decide), if_neg (by decide), ck_t, if_neg (by decide), ck_t, cs4]
    · refine Q2.same (r := -1) h ?_ ?_
      · unfold f_X_shelf
        rw [(sh_y q).2.1, bd_s, if_neg (by decide), if_neg (fun z => by rw [z] at q1; exact q1 (by decide)), if_neg (fun z => by rw [z] at q1; exact q1 (by decide)), if_neg (fun z => by rw [z] at q1; exact q1 (by decide))]
      · show f_M_shelf S _ _ _ _ = _
        unfold f_M_shelf
        rw [(sh_y q).2.2.2, bd_s, if_neg (by decide), in_n tl0 tl2 q1, bd_s, if_pos rfl]
  · refine Q2.same (r := -1) h ?_ ?_
    · unfold f_X_shelf
      rw [(sh_n q).2.1, bd_s, if_pos rfl]
    · show f_M_shelf S _ _ _ _ = _
      unfold f_M_shelf
      rw [(sh_n q).2.2.2, bd_s, if_pos rfl]
theorem udO_ok2 : ∀ k, k < 6 → ∀ a, a < 15 → udO (iN a) 1000 (iN k) = some (bI (und k a)) := by decide +kernel
theorem pM_isUnder2 {k a : Nat} (hk : k ≤ 5) (ha : a < 15) : f_M_isUnder S (iN k) (iN a) = some (bI (und k a), S) :=
  pM_isUnder_l _ _ _ _ (udO_ok2 k (by omega) a ha)
theorem und_n {k a : Nat} (ha : 6 ≤ a) (hk : k ≤ 5) : und k a = false := by
  unfold und
  simp; omega
theorem dv40 {f t : Nat} (hf : f < 40) (ht : t < 40) : iN (40 * f + t) / (40 : Int32) = iN f ∧ iN (40 * f + t) - iN f * (40 : Int32) = iN t := by
  constructor
  · show iN (40 * f + t) / iN 40 = _
    rw [iN_dv (by omega) (by omega)]; congr 1; omega
  · show iN (40 * f + t) - iN f * iN 40 = _
    rw [iN_m, iN_s (by omega)]; congr 1; omega
theorem q_taken (h : Inv k S) (x y : Int32) : Q2 k S (f_X_taken S x y) (fun T => f_M_taken T x y) := by
  obtain ⟨m, l, ht⟩ := h.1
  have hc := ht.1
  have hn := ht.2.1
  by_cases q : 0 ≤ x.toInt ∧ x.toInt ≤ 3
  · obtain ⟨s, rfl, hs, es⟩ := iN_of q.1
    have hs4 : s < 4 := by omega
    have is4 : inb (iN s) 4 = true := iN_b hs4 (by decide)
    have cs4 : (iN s).toNatClampNeg = s := iN_c (by omega)
    obtain ⟨g1, g2⟩ := h.2.2.2.2.2.1 s hs4
    have y1 : y.toInt < 2147483648 := y.toInt_lt
    have y2 : -2147483648 ≤ y.toInt := y.le_toInt
    have s10 : (y - (10 : Int32)).toInt = y.toInt - 10 ∨ (y.toInt < -2147483600 ∧ (y - (10 : Int32)).toInt = y.toInt - 10 + 4294967296) := by
      rw [Int32.toInt_sub, tl10]
      have key : ∀ z : Int, -2147483658 ≤ z → z < 2147483648 → z.bmod (2 ^ 32) = z ∨ (z < -2147483610 ∧ z.bmod (2 ^ 32) = z + 4294967296) := by
        intro z h1 h2
        show (if z % 4294967296 < ((4294967296 : Int) + 1) / 2 then z % 4294967296 else z % 4294967296 - 4294967296) = z ∨ (z < -2147483610 ∧ (if z % 4294967296 < ((4294967296 : Int) + 1) / 2 then z % 4294967296 else z % 4294967296 - 4294967296) = z + 4294967296)
        split <;> omega
      rcases key (y.toInt - 10) (by omega) (by omega) with e | e
      · exact Or.inl e
      · exact Or.inr ⟨by omega, e.2⟩
    by_cases q1 : (0 ≤ y.toInt ∧ y.toInt ≤ 5) ∨ (10 ≤ y.toInt ∧ y.toInt ≤ 14)
    · have x0 : f_X_taken S (iN s) y = if gI S 209 s = (2 : Int32) then (if y = ((10 : Int32) + (gI S 168 s)) then some ((gI S 169 s), S) else some ((-13 : Int32), S)) else bd (f_X_kindOnShelf S (iN s)) fun r39 S40 => (if r39 = (-1 : Int32) then some ((-11 : Int32), S40) else (if y.toInt ≤ 5 then bd (f_X_isUnder S40 r39 y) fun r43 S44 => (if r43 = 0 then some ((-13 : Int32), S44) else some ((((40 : Int32) * (gI S44 168 s)) + (gI S44 169 s)), S44)) else some ((-13 : Int32), S40))) := by
        unfold f_X_taken
        rw [if_neg (lt_n rfl tl0 (by omega))]
        by_cases z : y.toInt ≤ 5
        · rw [if_neg (lt_n tl5 rfl (by omega)), (sh_y q).2.1, bd_s, if_neg (by decide), is4, ck_t, cs4, g1]
          simp only [if_pos z]
        · rw [if_pos (lt_y tl5 rfl (by omega)), (sh_y q).2.1, bd_s, if_neg (by decide), sort_y (by rcases s10 with e | e <;> omega), bd_s, if_neg (by decide), is4, ck_t, cs4, g1]
          simp only [if_neg z]
      have m0 : f_M_taken S (iN s) y = bd (f_M_onShelf S (iN s)) fun r9 S10 => (if r9 = 0 then some ((-11 : Int32), S10) else (if r9 = (2 : Int32) then ck (inb (iN s) 4) ((if y = ((10 : Int32) + (gI S10 210 (iN s).toNatClampNeg)) then some ((gI S10 211 (iN s).toNatClampNeg), S10) else some ((-13 : Int32), S10))) else ck (inb (iN s) 4) (bd (f_M_kindOf S10 ((gI S10 210 (iN s).toNatClampNeg) / (40 : Int32)) ((gI S10 210 (iN s).toNatClampNeg) - (gI S10 210 (iN s).toNatClampNeg) / (40 : Int32) * (40 : Int32))) fun r15 S16 => bd (f_M_isUnder S16 r15 y) fun r18 S19 => (if r18 = 0 then some ((-13 : Int32), S19) else some ((gI S19 210 (iN s).toNatClampNeg), S19))))) := by
        unfold f_M_taken
        rw [(sh_y q).2.2.2, bd_s, if_neg (by decide)]
        by_cases z : y.toInt ≤ 5
        · rw [in_y tl0 tl5 (by omega), bd_s, if_neg (by decide)]
        · rw [in_n tl0 tl5 (by omega), bd_s, if_pos rfl, in_y tl10 tl14 (by omega), bd_s, if_neg (by decide)]
      unfold f_X_kindOnShelf at x0
      unfold f_M_onShelf at m0
      rw [is4, ck_t, cs4, g1] at x0
      rw [is4, ck_t, cs4] at m0
      rcases g2 with g2 | ⟨g2, f, t, hf, htt, e1, e2, e3⟩ | ⟨g2, e1, e2, e3, e4⟩
      · refine Q2.same (r := -11) h ?_ ?_
        · rw [x0, g2, if_neg (by decide), if_neg (by decide), bd_s, if_pos rfl]
        · show f_M_taken S _ _ = _
          rw [m0, g2, if_neg (by decide), bd_s, if_pos rfl]
      · have hl := ckd_l (m := m) f t
        rw [g2, if_neg (by decide), if_pos rfl, e1, e2, pT_turnNow hc, bd_s, bd_s, tkd_n (by omega) (by omega)] at x0
        rw [g2, if_pos rfl, e3, (dv40 hf htt).1, (dv40 hf htt).2, pM_kindOf hn, bd_s, tkd_n (by omega) (by omega), if_z (by omega)] at m0
        by_cases z : ckd m f t = 0
        · refine Q2.same (r := -11) h ?_ ?_
          · rw [x0, if_pos z, if_pos rfl]
          · show f_M_taken S _ _ = _
            rw [m0, if_pos z, bd_s, if_pos rfl]
        · rw [if_neg ((m1ne hl).mpr z), if_neg z] at x0
          rw [if_neg z, g2, bd_s, if_neg (by decide), if_neg (by decide), ck_t, e3, (dv40 hf htt).1, (dv40 hf htt).2, pM_kindOf hn, bd_s, tkd_n (by omega) (by omega)] at m0
          obtain ⟨a, rfl, ha, ea⟩ := iN_of (show 0 ≤ y.toInt by omega)
          rw [pM_isUnder2 hl (by omega), bd_s, if_bI] at m0
          have e40 : (40 : Int32) * iN f + iN t = iN (40 * f + t) := by show iN 40 * iN f + iN t = _; rw [iN_m, iN_a]
          by_cases y5 : (iN a).toInt ≤ 5
          · rw [if_pos y5, pX_isUnder hl (by omega), bd_s, if_bI, e1, e2, e40] at x0
            cases hu : und (ckd m f t) a with
            | false =>
              refine Q2.same (r := -13) h ?_ ?_
              · rw [x0, hu, bt_f]
              · show f_M_taken S _ _ = _
                rw [m0, hu, bt_f]
            | true =>
              refine Q2.same (r := iN (40 * f + t)) h ?_ ?_
              · rw [x0, hu, bt_t]
              · show f_M_taken S _ _ = _
                rw [m0, hu, bt_t, e3]
          · refine Q2.same (r := -13) h ?_ ?_
            · rw [x0, if_neg y5]
            · show f_M_taken S _ _ = _
              rw [m0, und_n (by omega) hl, bt_f]
      · rw [g2, if_pos rfl, e1, e2] at x0
        rw [g2, if_neg (by decide), bd_s, if_neg (by decide), if_pos rfl, ck_t] at m0
        refine Q2.same (r := if y = (10 : Int32) + gI S 210 s then gI S 211 s else -13) h ?_ ?_
        · rw [x0]; split <;> rfl
        · show f_M_taken S _ _ = _
          rw [m0]; split <;> rfl
    · refine Q2.same (r := -1) h ?_ ?_
      · unfold f_X_taken
        by_cases z : y.toInt < 0
        · rw [if_pos (lt_y rfl tl0 z), (sh_y q).2.1, bd_s, if_neg (by decide), sort_n (by rcases s10 with e | e <;> omega), bd_s, if_pos rfl]
        · rw [if_neg (lt_n rfl tl0 (by omega)), if_pos (lt_y tl5 rfl (by omega)), (sh_y q).2.1, bd_s, if_neg (by decide), sort_n (by rcases s10 with e | e <;> omega), bd_s, if_pos rfl]
      · show f_M_taken S _ _ = _
        unfold f_M_taken
        rw [(sh_y q).2.2.2, bd_s, if_neg (by decide), in_n tl0 tl5 (by omega), bd_s, if_pos rfl, in_n tl10 tl14 (by omega), bd_s, if_pos rfl]
  · refine Q2.same (r := -1) h ?_ ?_
    · unfold f_X_taken
      rw [(sh_n q).2.1, bd_s, if_pos rfl, bd_s, if_pos rfl]
      split
      · rfl
      · split <;> rfl
    · show f_M_taken S _ _ = _
      unfold f_M_taken
      rw [(sh_n q).2.2.2, bd_s, if_pos rfl]
end
