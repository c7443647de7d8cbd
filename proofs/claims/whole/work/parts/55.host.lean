/-! Sheets. -/
section
variable {k : cx} {S S1 S2 T : hs} {m m' : Nat → Int32} {l : Lz}
theorem Inv.hst (h : Inv k S) (e : ∀ a i, ¬ (160 ≤ a ∧ a < 170) → ¬ (206 ≤ a ∧ a < 212) → gI T a i = gI S a i) (hH : IvH T) (hG : IvG T) : Inv k T := by
  obtain ⟨⟨m, l, hc, hn, hlc, hlm⟩, hk, hr, hp, hh, hg, ha, hs, hi⟩ := h
  refine ⟨⟨m, l, ⟨hc.1, hc.2.cg (fun a h1 h2 i => e a i (by omega) (by omega)) hc.1.c.2 hc.1.s.2 hc.1.w.2⟩, ⟨hn.1, fun i hi => (e 192 i (by omega) (by omega)).trans (hn.2 i hi)⟩, hlc.cg (e _ _ (by omega) (by omega)) (fun i _ => e _ _ (by omega) (by omega)) (fun i _ => e _ _ (by omega) (by omega)) (fun i _ => e _ _ (by omega) (by omega)) (fun i _ => e _ _ (by omega) (by omega)) (fun i _ => e _ _ (by omega) (by omega)), hlm⟩, hk.cg (fun a i q => e a i (by omega) (by omega)), hr.cg (fun a i q => e a i (by omega) (by omega)), hp.cg (fun a i q => e a i (by omega) (by omega)), hH, hG, ha.cg (fun a i q => e a i (by omega) (by omega)), hs.cg (fun a i q1 q2 => e a i (by omega) (by omega)), (e 191 3 (by omega) (by omega)).trans hi⟩
theorem sh_y {x : Int32} (h : 0 ≤ x.toInt ∧ x.toInt ≤ 3) : f_H_hasSheet S x = some (1, S) ∧ f_H_hasShelf S x = some (1, S) ∧ f_M_isSheet S x = some (1, S) ∧ f_M_in S x (0 : Int32) (3 : Int32) = some (1, S) := by
  refine ⟨?_, ?_, ?_, in_y tl0 tl3 h⟩
  · unfold f_H_hasSheet; rw [if_neg (lt_n rfl tl0 (by omega)), if_neg (le_n tl4 rfl (by omega))]
  · unfold f_H_hasShelf; rw [if_neg (lt_n rfl tl0 (by omega)), if_neg (le_n tl4 rfl (by omega))]
  · unfold f_M_isSheet; rw [in_y tl0 tl3 h, bd_s, ck_of (by decide)]
theorem sh_n {x : Int32} (h : ¬ (0 ≤ x.toInt ∧ x.toInt ≤ 3)) : f_H_hasSheet S x = some (0, S) ∧ f_H_hasShelf S x = some (0, S) ∧ f_M_isSheet S x = some (0, S) ∧ f_M_in S x (0 : Int32) (3 : Int32) = some (0, S) := by
  refine ⟨?_, ?_, ?_, in_n tl0 tl3 h⟩
  · unfold f_H_hasSheet
    by_cases q : x.toInt < 0
    · rw [if_pos (lt_y rfl tl0 q)]
    · rw [if_neg (lt_n rfl tl0 (by omega)), if_pos (le_y tl4 rfl (by omega))]
  · unfold f_H_hasShelf
    by_cases q : x.toInt < 0
    · rw [if_pos (lt_y rfl tl0 q)]
    · rw [if_neg (lt_n rfl tl0 (by omega)), if_pos (le_y tl4 rfl (by omega))]
  · unfold f_M_isSheet; rw [in_n tl0 tl3 h, bd_s, ck_of (by decide)]
theorem sort_y {x : Int32} (h : 0 ≤ x.toInt ∧ x.toInt ≤ 4) : f_X_isSort S x = some (1, S) := by
  unfold f_X_isSort; rw [if_neg (lt_n rfl tl0 (by omega)), if_neg (lt_n tl4 rfl (by omega))]
theorem sort_n {x : Int32} (h : ¬ (0 ≤ x.toInt ∧ x.toInt ≤ 4)) : f_X_isSort S x = some (0, S) := by
  unfold f_X_isSort
  by_cases q : x.toInt < 0
  · rw [if_pos (lt_y rfl tl0 q)]
  · rw [if_neg (lt_n rfl tl0 (by omega)), if_pos (lt_y tl4 rfl (by omega))]
theorem fillJ {s : Nat} (hs4 : s < 4) : ∀ (k j n : Nat) (T : hs), j + k = 40 → k < n → ∃ U, lp_Ar_fill_aJJV_w163_6 s (0 : Int64) (40 : Int32) n T (iN j) = some (0, U) ∧ (∀ a i, gI U a i = gI T a i) ∧ ∀ a i, gJ U a i = if a = 163 + s ∧ j ≤ i ∧ i < 40 then 0 else gJ T a i := by
  intro k
  induction k with
  | zero =>
    intro j n T hj hn
    obtain ⟨n, rfl⟩ : ∃ q, n = q + 1 := ⟨n - 1, by omega⟩
    refine ⟨T, ?_, fun _ _ => rfl, fun a i => by rw [if_neg (by omega)]⟩
    obtain rfl : j = 40 := by omega
    rw [lp_Ar_fill_aJJV_w163_6, if_pos i40e]
  | succ k ih =>
    intro j n T hj hn
    obtain ⟨n, rfl⟩ : ∃ q, n = q + 1 := ⟨n - 1, by omega⟩
    obtain ⟨U, h1, h2, h3⟩ := ih (j + 1) n (uJ T (163 + s) j 0) (by omega) (by omega)
    refine ⟨U, ?_, fun a i => (h2 a i).trans gI_J, fun a i => ?_⟩
    · rw [lp_Ar_fill_aJJV_w163_6, if_neg (i40 (by omega)), ck_of (iN_b (by omega) (by decide)), iN_c (by omega), iN_1]; exact h1
    · rw [h3, gJ_u]; grind
theorem fillM {s : Nat} (hs4 : s < 4) : ∀ (k j n : Nat) (T : hs), j + k = 40 → k < n → ∃ U, lp_M_sheet_64 (iN s) n T (iN j) = some (1, U) ∧ (∀ a i, gI U a i = if a = 206 ∧ 40 * s + j ≤ i ∧ i < 40 * s + 40 then 0 else gI T a i) ∧ ∀ a i, gJ U a i = gJ T a i := by
  intro k
  induction k with
  | zero =>
    intro j n T hj hn
    obtain ⟨n, rfl⟩ : ∃ q, n = q + 1 := ⟨n - 1, by omega⟩
    refine ⟨T, ?_, fun a i => by rw [if_neg (by omega)], fun _ _ => rfl⟩
    obtain rfl : j = 40 := by omega
    rw [lp_M_sheet_64, if_pos i40e]
  | succ k ih =>
    intro j n T hj hn
    obtain ⟨n, rfl⟩ : ∃ q, n = q + 1 := ⟨n - 1, by omega⟩
    have e : (40 : Int32) * iN s + iN j = iN (40 * s + j) := by show iN 40 * iN s + iN j = _; rw [iN_m, iN_a]
    obtain ⟨U, h1, h2, h3⟩ := ih (j + 1) n (uI T 206 (40 * s + j) 0) (by omega) (by omega)
    refine ⟨U, ?_, fun a i => ?_, fun a i => (h3 a i).trans gJ_I⟩
    · rw [lp_M_sheet_64, if_neg (i40 (by omega)), e, ck_of (iN_b (by omega) (by decide)), iN_c (by omega), iN_1]; exact h1
    · rw [h2, gI_u]; grind
theorem IvG.cg' (h : IvG S) (e : ∀ a i, a = 167 ∨ a = 168 ∨ a = 169 ∨ a = 209 ∨ a = 210 ∨ a = 211 → gI T a i = gI S a i) : IvG T := h.cg e
/-- a sheet is laid, on both sides -/
theorem lay2 (h : Inv k S) {s : Nat} (hs : s < 4) {so n : Int32} (h1 : -1 ≤ so.toInt ∧ so.toInt ≤ 4) (h2 : 0 ≤ n.toInt ∧ n.toInt ≤ 40) : ∃ S1, f_H_lay S (iN s) so n = some (0, S1) ∧ (∀ a i, ¬ a = 160 → ¬ a = 161 → gI S1 a i = gI S a i) ∧ ∃ S2, lp_M_sheet_64 (iN s) 1000 (uI (uI S1 207 s so) 208 s n) (0 : Int32) = some (1, S2) ∧ Inv k S2 := by
  obtain ⟨S1, a1, a2, a3⟩ := fillJ hs 40 0 1000 (uI (uI S 160 s so) 161 s n) (by omega) (by omega)
  refine ⟨S1, ?_, fun a i q1 q2 => by rw [a2, gI_ua q2, gI_ua q1], ?_⟩
  · unfold f_H_lay f_Ar_fill_aJJV_w163
    rw [ck_of (iN_b (by omega) (by decide)), iN_c (by omega), show (0 : Int32) = iN 0 from rfl, a1, bd_s]
  · obtain ⟨S2, b1, b2, b3⟩ := fillM hs 40 0 1000 (uI (uI S1 207 s so) 208 s n) (by omega) (by omega)
    have hH := h.2.2.2.2.1
    have hG := h.2.2.2.2.2.1
    refine ⟨S2, b1, h.hst (fun a i q1 q2 => by rw [b2, if_neg (by omega), gI_ua (by omega), gI_ua (by omega), a2, gI_ua (by omega), gI_ua (by omega)]) ?_ (hG.cg (fun a i q => by rw [b2, if_neg (by omega), gI_ua (by omega), gI_ua (by omega), a2, gI_ua (by omega), gI_ua (by omega)]))⟩
    intro t ht
    have e := hH t ht
    have c1 : gI S2 160 t = if t = s then so else gI S 160 t := by rw [b2, if_neg (by omega), gI_ua (by omega), gI_ua (by omega), a2, gI_ua (by omega), gI_u]; grind
    have c2 : gI S2 161 t = if t = s then n else gI S 161 t := by rw [b2, if_neg (by omega), gI_ua (by omega), gI_ua (by omega), a2, gI_u, gI_ua (by omega)]; grind
    have c3 : gI S2 207 t = if t = s then so else gI S 207 t := by rw [b2, if_neg (by omega), gI_ua (by omega), gI_u, a2, gI_ua (by omega), gI_ua (by omega)]; grind
    have c4 : gI S2 208 t = if t = s then n else gI S 208 t := by rw [b2, if_neg (by omega), gI_u, gI_ua (by omega), a2, gI_ua (by omega), gI_ua (by omega)]; grind
    rw [c1, c2, c3, c4]
    by_cases z : t = s
    · rw [if_pos z, if_pos z, if_pos z, if_pos z]
      refine ⟨rfl, rfl, h1, h2, fun i hi => ?_⟩
      rw [b3, gJ_I, gJ_I, a3, if_pos (by omega), b2, if_pos (by omega)]; rfl
    · rw [if_neg z, if_neg z, if_neg z, if_neg z]
      refine ⟨e.1, e.2.1, e.2.2.1, e.2.2.2.1, fun i hi => ?_⟩
      rw [b3, gJ_I, gJ_I, a3, if_neg (by omega), gJ_I, gJ_I, e.2.2.2.2 i hi, b2, if_neg (by omega), gI_ua (by omega), gI_ua (by omega), a2, gI_ua (by omega), gI_ua (by omega)]
theorem q_sheet (h : Inv k S) (x y n : Int32) : Q2 k S (f_X_sheet S x y n) (fun T => f_M_sheet T x y n) := by
  by_cases q : 0 ≤ x.toInt ∧ x.toInt ≤ 3
  · obtain ⟨s, rfl, hs, es⟩ := iN_of q.1
    have hs4 : s < 4 := by omega
    by_cases q1 : -1 ≤ y.toInt ∧ y.toInt ≤ 4
    · by_cases q2 : y = -1
      · subst q2
        obtain ⟨S1, a1, a2, S2, b1, b2⟩ := lay2 h hs4 q1 (n := 0) (by decide)
        refine ⟨1, S1, S2, ?_, ?_, fun j => a2 32 j (by omega) (by omega), b2⟩
        · unfold f_X_sheet
          rw [(sh_y q).1, bd_s, if_neg (by decide)]
          simp only [↓reduceIte]
          rw [a1, bd_s]
        · show f_M_sheet S1 _ _ _ = _
          unfold f_M_sheet
          rw [(sh_y q).2.2.1, bd_s, if_neg (by decide), in_y (show (-1 : Int32).toInt = -1 from rfl) tl4 q1, bd_s, if_neg (by decide), if_pos (by decide), if_pos (by decide), ck_of (iN_b (by omega) (by decide)), if_neg (by decide), iN_c (by omega), b1]
      · have y0 : 0 ≤ y.toInt := by
          have : y.toInt ≠ -1 := fun z => q2 (Int32.toInt_inj.mp (by rw [z]; rfl))
          omega
        have e0 : ∀ {α : Type} {a b : α}, (if y = (-1 : Int32) then a else b) = b := if_neg q2
        have e1 : ∀ {α : Type} {a b : α}, (if y < (0 : Int32) then a else b) = b := if_neg (lt_n rfl tl0 y0)
        have e2 : ∀ {α : Type} {a b : α}, (if (0 : Int32) ≤ y then a else b) = a := if_pos (le_y tl0 rfl y0)
        have x0 : f_X_sheet S (iN s) y n = (if n ≤ (40 : Int32) then (if 0 ≤ n then bd (f_H_lay S (iN s) y n) fun r72 S73 => some ((1 : Int32), S73) else some ((-14 : Int32), S)) else some ((-1 : Int32), S)) := by
          unfold f_X_sheet
          rw [(sh_y q).1, bd_s, if_neg (by decide)]
          simp only [e0]
          rw [sort_y ⟨y0, q1.2⟩, bd_s, if_neg (by decide)]
        have m0 : ∀ S, f_M_sheet S (iN s) y n = (if n ≤ (40 : Int32) then (if 0 ≤ n then lp_M_sheet_64 (iN s) 1000 (uI (uI S 207 s y) 208 s n) (0 : Int32) else some ((-14 : Int32), S)) else some ((-1 : Int32), S)) := by
          intro S
          unfold f_M_sheet
          rw [(sh_y q).2.2.1, bd_s, if_neg (by decide), in_y (show (-1 : Int32).toInt = -1 from rfl) tl4 q1, bd_s, if_neg (by decide)]
          simp only [e1, e2]
          rw [ck_of (iN_b (by omega) (by decide)), iN_c (by omega)]
        by_cases q3 : n.toInt ≤ 40
        · by_cases q4 : 0 ≤ n.toInt
          · obtain ⟨S1, a1, a2, S2, b1, b2⟩ := lay2 h hs4 q1 (n := n) ⟨q4, q3⟩
            refine ⟨1, S1, S2, ?_, ?_, fun j => a2 32 j (by omega) (by omega), b2⟩
            · rw [x0, if_pos (le_y rfl tl40 q3), if_pos (le_y tl0 rfl q4), a1, bd_s]
            · show f_M_sheet S1 _ _ _ = _
              rw [m0, if_pos (le_y rfl tl40 q3), if_pos (le_y tl0 rfl q4), b1]
          · refine Q2.same (r := -14) h ?_ ?_
            · rw [x0, if_pos (le_y rfl tl40 q3), if_neg (le_n tl0 rfl (by omega))]
            · show f_M_sheet S _ _ _ = _
              rw [m0, if_pos (le_y rfl tl40 q3), if_neg (le_n tl0 rfl (by omega))]
        · refine Q2.same (r := -1) h ?_ ?_
          · rw [x0, if_neg (le_n rfl tl40 (by omega))]
          · show f_M_sheet S _ _ _ = _
            rw [m0, if_neg (le_n rfl tl40 (by omega))]
    · have q2 : ¬ y = -1 := fun z => q1 (by rw [z]; decide)
      refine Q2.same (r := -1) h ?_ ?_
      · unfold f_X_sheet
        rw [(sh_y q).1, bd_s, if_neg (by decide), if_neg q2, sort_n (fun z => q1 (by omega)), bd_s, if_pos rfl]
      · show f_M_sheet S _ _ _ = _
        unfold f_M_sheet
        rw [(sh_y q).2.2.1, bd_s, if_neg (by decide), in_n (show (-1 : Int32).toInt = -1 from rfl) tl4 q1, bd_s, if_pos rfl]
  · refine Q2.same (r := -1) h ?_ ?_
    · unfold f_X_sheet
      rw [(sh_n q).1, bd_s, if_pos rfl]
    · show f_M_sheet S _ _ _ = _
      unfold f_M_sheet
      rw [(sh_n q).2.2.1, bd_s, if_pos rfl]
end
