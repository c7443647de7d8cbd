/-! act, on both sides. -/
def vA (act ci : Nat) (n a x : Int32) : Int32 := match act with
  | 0 => vTu ci n a x
  | 1 => vGo ci n a x
  | 2 => vSe ci n a x
  | _ => vTe ci n a x
def bA (act ci : Nat) : List Int32 := match act with
  | 0 => bTu ci
  | 1 => bGo ci
  | 2 => bSe ci
  | _ => bTe ci
section
variable {w : Wd} {k k' : cx} {S T : hs} {m : Nat → Int32} {kd : Nat} {n a x : Int32}
theorem five (h : 1 ≤ kd ∧ kd ≤ 5) : kd = 1 ∨ kd = 2 ∨ kd = 3 ∨ kd = 4 ∨ kd = 5 := by omega
theorem four {i : Nat} (h : i < 4) : i = 0 ∨ i = 1 ∨ i = 2 ∨ i = 3 := by omega
theorem bA_l {i : Nat} (hi : i < 4) (h : 1 ≤ kd ∧ kd ≤ 5) : (bA i (5 + kd)).length ≤ 30 := by
  rcases four hi with rfl | rfl | rfl | rfl <;> rcases five h with rfl | rfl | rfl | rfl | rfl <;> decide
theorem ev_all (h : Ac T m kd n a) (hk : 1 ≤ kd ∧ kd ≤ 5) (hne : a ≠ n) {i : Nat} (hi : i < 4) : f_M_voiced (fx_bf 20) T (iN i) x = some (vA i (5 + kd) n a x, pms T (bA i (5 + kd))) := by
  rw [mvo h rfl]
  rcases four hi with rfl | rfl | rfl | rfl <;> rcases five hk with rfl | rfl | rfl | rfl | rfl
  · exact et_1 h (N := 18)
  · exact et_2 h (N := 18)
  · exact et_3 h (N := 18)
  · exact et_4 h (N := 18)
  · exact et_5 h (N := 18)
  · exact eg_1 h (N := 16)
  · exact eg_2 h (N := 16)
  · exact eg_3 h (N := 16)
  · exact eg_4 h (N := 16)
  · exact eg_5 h (N := 16)
  · exact es_1 h hne (N := 17)
  · exact es_2 h hne (N := 17)
  · exact es_3 h hne (N := 17)
  · exact es_4 h hne (N := 17)
  · exact es_5 h hne (N := 17)
  · exact el_1 h hne (N := 14)
  · exact el_2 h hne (N := 14)
  · exact el_3 h hne (N := 14)
  · exact el_4 h hne (N := 14)
  · exact el_5 h hne (N := 14)
theorem J_all (w : Wd) (d : Nat) (k : cx) (S : hs) (t ci : Nat) (x1 x3 : Int32) {i : Nat} (hi : i < 4) (hT : Tg (kLt k (some t)) t ci) (h3 : Ok3 S t) (n0 z0 : Nat) : J w (d + 7) m_X_act (n0, z0, some (.int (vA i ci (gI S t 0) (gI S t 1) x3)), mk (kLt k (some t)) (bgs S t (bA i ci))) 66 [some (.ref 33), some (.int x1), some (.int (iN i)), some (.int x3)] [] (mk (kLt k (some t)) S) := by
  rcases four hi with rfl | rfl | rfl | rfl
  · exact J_act_0 w d k S t ci x1 _ x3 rfl hT h3 n0 z0
  · exact J_act_1 w d k S t ci x1 _ x3 rfl hT h3 n0 z0
  · exact J_act_2 w d k S t ci x1 _ x3 rfl hT h3 n0 z0
  · exact J_act_3 w d k S t ci x1 _ x3 rfl hT h3 n0 z0
theorem J_new (w : Wd) (d : Nat) (k : cx) (S : hs) (f g : Int32) (x1 x3 : Int32) {i ci : Nat} (hi : i < 4) (hc : 6 ≤ ci ∧ ci ≤ 10) (n0 z0 : Nat) : J w (d + 7) m_X_act (n0, z0, some (.int (vA i ci f g x3)), mk (kLt (kNw (kLt k none) ci) (some (213 + 2 * k.1))) (bgs (tS S (213 + 2 * k.1) f g) (213 + 2 * k.1) (bA i ci))) 66 [some (.ref 33), some (.int x1), some (.int (iN i)), some (.int x3)] [] (mk (kLt (kNw (kLt k none) ci) (some (213 + 2 * k.1))) (tS S (213 + 2 * k.1) f g)) := by
  have h := J_all w d (kNw (kLt k none) ci) (tS S (213 + 2 * k.1) f g) (213 + 2 * k.1) ci x1 x3 hi (Tg_n (k := kLt k none) hc) ⟨0, by omega, tS_3⟩ n0 z0
  rw [tS_0, tS_1] at h
  exact h
theorem cX_all (w : Wd) (d : Nat) (k : cx) (S : hs) (x1 x3 : Int32) {i : Nat} (hi : i < 4) (hk : 1 ≤ kd ∧ kd ≤ 5) (h1 : f_H_hasShelf S x1 = some (1, S)) (h4 : inb x1 4 = true) (h3 : f_X_kindOnShelf S x1 = some (iN kd, S)) : Cl w (d + 7) m_X_act [.ref 33, .int x1, .int (iN i), .int x3] (mk k S) (some (.int (vA i (5 + kd) (gI S 168 (x1).toNatClampNeg) (gI S 169 (x1).toNatClampNeg) x3))) (mk (kLt (kNw (kLt k none) (5 + kd)) (some (213 + 2 * k.1))) (bgs (tS S (213 + 2 * k.1) (gI S 168 (x1).toNatClampNeg) (gI S 169 (x1).toNatClampNeg)) (213 + 2 * k.1) (bA i (5 + kd)))) := by
  have h2 : 0 ≤ (iN i).toInt ∧ (iN i).toInt ≤ 3 := by rw [iN_i (by omega)]; omega
  rcases five hk with rfl | rfl | rfl | rfl | rfl
  · exact c_X_act_1 w d k S x1 (iN i) x3 _ _ h1 h2 h4 h3 (fun n0 z0 => J_new w d k S _ _ x1 x3 hi (by decide) n0 z0)
  · exact c_X_act_2 w d k S x1 (iN i) x3 _ _ h1 h2 h4 h3 (fun n0 z0 => J_new w d k S _ _ x1 x3 hi (by decide) n0 z0)
  · exact c_X_act_3 w d k S x1 (iN i) x3 _ _ h1 h2 h4 h3 (fun n0 z0 => J_new w d k S _ _ x1 x3 hi (by decide) n0 z0)
  · exact c_X_act_4 w d k S x1 (iN i) x3 _ _ h1 h2 h4 h3 (fun n0 z0 => J_new w d k S _ _ x1 x3 hi (by decide) n0 z0)
  · exact c_X_act_5 w d k S x1 (iN i) x3 _ _ h1 h2 h4 h3 (fun n0 z0 => J_new w d k S _ _ x1 x3 hi (by decide) n0 z0)
theorem act_none (hI : Iv2 k S) (hk : k.1 ≤ 600) {x1 x2 x3 : Int32} (cX : Cl w 1000 m_X_act [.ref 33, .int x1, .int x2, .int x3] (mk k S) (some (.int 0)) (mk (kLt k none) S)) (hM : f_M_act S x1 x2 x3 = some (0, uI S 191 31 0)) : Sp2 w 1000 m_X_act m_M_act [.int x1, .int x2, .int x3] k S (Nx Iv2 k) :=
  ⟨0, kLt k none, S, uI S 191 31 0, cX, c_M_act w 755 (kLt k none) S x1 x2 x3 hM, rfl, Nat.le_trans hk (by decide), fun _ => rfl, ⟨hI.1.ac (fun a i q1 q2 => by rw [gI_u, if_neg (by omega)]) (fun _ _ _ => rfl) (Or.inl ⟨rfl, gI_us⟩), hI.2⟩, Nat.le_succ _⟩
theorem ckd_ne (v : VM m) {f t : Nat} (h : ckd m f t ≠ 0) : f ≠ t := fun e => by
  subst e
  unfold ckd at h
  by_cases q : cIs m f = true ∧ cIs m f = true ∧ enn m f = bgn m f
  · have hs : f / 2 < nSt m := by
      have := q.1
      unfold cIs wIs at this
      simp only [Bool.and_eq_true, decide_eq_true_eq] at this
      exact this.1.1
    exact be_ne v (u := f) (by omega) q.2.2.symm
  · exact h (if_neg q)
theorem mA0 {s : Nat} {x2 x3 : Int32} (q : 0 ≤ (iN s).toInt ∧ (iN s).toInt ≤ 3) (q2 : 0 ≤ x2.toInt ∧ x2.toInt ≤ 3) (S : hs) : f_M_act S (iN s) x2 x3 = bd (f_M_onShelf (uI S 191 31 (0 : Int32)) (iN s)) fun r9 S10 => (if r9 = (1 : Int32) then ck (inb (iN s) 4) (bd (f_M_voiced (fx_bf 20) (uI (uI (uI S10 191 32 ((gI S10 210 ((iN s)).toNatClampNeg) / (40 : Int32))) 191 33 ((gI (uI S10 191 32 ((gI S10 210 ((iN s)).toNatClampNeg) / (40 : Int32))) 210 ((iN s)).toNatClampNeg) - (gI (uI S10 191 32 ((gI S10 210 ((iN s)).toNatClampNeg) / (40 : Int32))) 210 ((iN s)).toNatClampNeg) / (40 : Int32) * (40 : Int32))) 191 34 (0 : Int32)) x2 x3) fun r14 S15 => (if (gI S15 191 34) = 0 then some (r14, S15) else some ((-15 : Int32), S15))) else some ((0 : Int32), S10)) := by
  unfold f_M_act
  rw [(sh_y q).2.2.2, bd_s, if_neg (by decide), (sh_y q2).2.2.2, bd_s, if_neg (by decide)]
theorem S1_o {t a i : Nat} {f g : Int32} {l : List Int32} (h : a < t) : gI (bgs (tS S t f g) t l) a i = gI S a i ∧ gJ (bgs (tS S t f g) t l) a i = gJ S a i := by
  rw [bgs_pus, pus_o (by omega) (by omega), pus_J]
  exact tS_o h
theorem q_act (hI : Iv2 k S) (hk : k.1 ≤ 600) (x1 x2 x3 : Int32) : Sp2 w 1000 m_X_act m_M_act [.int x1, .int x2, .int x3] k S (Nx Iv2 k) := by
  have h := hI.1
  obtain ⟨m, lz, ht⟩ := h.1
  have hc := ht.1
  have hn := ht.2.1
  by_cases q : 0 ≤ x1.toInt ∧ x1.toInt ≤ 3
  · obtain ⟨s, rfl, hs, es⟩ := iN_of q.1
    have hs4 : s < 4 := by omega
    have is4 : inb (iN s) 4 = true := iN_b hs4 (by decide)
    have cs4 : (iN s).toNatClampNeg = s := iN_c (by omega)
    obtain ⟨g1, g2⟩ := h.2.2.2.2.2.1 s hs4
    have hS1 : f_H_hasShelf S (iN s) = some (1, S) := (sh_y q).2.1
    by_cases q2 : 0 ≤ x2.toInt ∧ x2.toInt ≤ 3
    · have x0 : f_X_kindOnShelf S (iN s) = if gI S 209 s = (1 : Int32) then bd (f_T_turnNow S (gI S 168 s) (gI S 169 s)) fun r3 S4 => some (r3, S4) else some ((-1 : Int32), S) := by
        unfold f_X_kindOnShelf
        rw [is4, ck_t, cs4, g1]
      have m0 : ∀ T, f_M_onShelf T (iN s) = if gI T 209 s = (1 : Int32) then bd (f_M_kindOf T (gI T 210 s / (40 : Int32)) (gI T 210 s - gI T 210 s / (40 : Int32) * (40 : Int32))) fun r3 S4 => (if r3 = 0 then some ((0 : Int32), S4) else some (gI S4 209 s, S4)) else some (gI T 209 s, T) := by
        intro T
        unfold f_M_onShelf
        rw [is4, ck_t, cs4]
      have n31 : ∀ {a i : Nat}, a ≠ 191 → gI (uI S 191 31 (0 : Int32)) a i = gI S a i := fun z => gI_ua z
      rcases g2 with g2 | ⟨g2, f, t, hf, htt, e1, e2, e3⟩ | ⟨g2, e1, e2, e3, e4⟩
      · refine act_none hI hk (c_X_act0 w 993 k S (iN s) x2 x3 hS1 q2 is4 (by rw [x0, g2, if_neg (by decide)])) ?_
        rw [mA0 q q2, m0, n31 (by decide), g2, if_neg (by decide), bd_s, if_neg (by decide)]
      · have hl := ckd_l (m := m) f t
        rw [g2, if_pos rfl, e1, e2, pT_turnNow hc, bd_s, tkd_n (by omega) (by omega)] at x0
        by_cases z : ckd m f t = 0
        · refine act_none hI hk (c_X_act0 w 993 k S (iN s) x2 x3 hS1 q2 is4 (by rw [x0, if_pos z])) ?_
          have hn1 : Tn (uI S 191 31 (0 : Int32)) m := hn.fr (P := fun a => a = 191) (Fr.rfl'.uI rfl) (by decide)
          rw [mA0 q q2, m0, n31 (by decide), n31 (by decide), g2, if_pos rfl, e3, (dv40 hf htt).1, (dv40 hf htt).2, pM_kindOf hn1, bd_s, tkd_n (by omega) (by omega), if_z (by omega), if_pos z, bd_s, if_neg (by decide)]
        · rw [if_neg z] at x0
          have hkd : 1 ≤ ckd m f t ∧ ckd m f t ≤ 5 := by omega
          obtain ⟨i, rfl, hi, ei⟩ := iN_of q2.1
          have hi4 : i < 4 := by omega
          have cX := cX_all w 993 k S (iN s) x3 hi4 hkd hS1 is4 x0
          rw [cs4, e1, e2] at cX
          have hne : iN t ≠ iN f := fun e => ckd_ne hc.1 z ((iN_eq (by omega) (by omega)).mp e).symm
          have hlen := bA_l (kd := ckd m f t) hi4 hkd
          generalize hS' : bgs (tS S (213 + 2 * k.1) (iN f) (iN t)) (213 + 2 * k.1) (bA i (5 + ckd m f t)) = S1 at cX
          have o1 : ∀ a i, a < 213 + 2 * k.1 → gI S1 a i = gI S a i ∧ gJ S1 a i = gJ S a i := fun a j ha => by rw [← hS']; exact S1_o ha
          have b1 := pus_n (a := 213 + 2 * k.1) (i := 3) (b := 213 + 2 * k.1 + 1) (by omega) (bA i (5 + ckd m f t)) (tS S (213 + 2 * k.1) (iN f) (iN t)) 0 (by omega) tS_3
          rw [← bgs_pus, hS'] at b1
          have hTn : ∀ T, (∀ j, gI T 192 j = gI S1 192 j) → Tn T m := fun T e => ⟨hn.1, fun j hj => (e j).trans ((o1 192 j (by omega)).1.trans (hn.2 j hj))⟩
          have hn1 : Tn (uI S1 191 31 (0 : Int32)) m := hTn _ (fun j => gI_ua (by decide))
          have a209 : gI (uI S1 191 31 (0 : Int32)) 209 s = 1 := (gI_ua (by decide)).trans ((o1 209 s (by omega)).1.trans g2)
          have a210 : gI (uI S1 191 31 (0 : Int32)) 210 s = iN (40 * f + t) := (gI_ua (by decide)).trans ((o1 210 s (by omega)).1.trans e3)
          have a210' : ∀ v, gI (uI (uI S1 191 31 (0 : Int32)) 191 32 v) 210 s = iN (40 * f + t) := fun v => (gI_ua (by decide)).trans a210
          generalize hT3 : uI (uI (uI (uI S1 191 31 (0 : Int32)) 191 32 (iN f)) 191 33 (iN t)) 191 34 (0 : Int32) = T3
          have c3 : ∀ a i, ¬ (a = 191 ∧ 31 ≤ i) → gI T3 a i = gI S1 a i := fun a i z => by rw [← hT3, gI_u, if_neg (by omega), gI_u, if_neg (by omega), gI_u, if_neg (by omega), gI_u, if_neg (by omega)]
          have j3 : ∀ a i, gJ T3 a i = gJ S1 a i := fun a i => by rw [← hT3]; rfl
          have h31 : gI T3 191 31 = iN 0 := by rw [← hT3, gI_un (by decide), gI_un (by decide), gI_un (by decide), gI_us]; rfl
          have hA : Ac T3 m (ckd m f t) (iN f) (iN t) := ⟨hTn _ (fun j => c3 _ _ (by omega)), by rw [← hT3, gI_us], by rw [← hT3, gI_un (by decide), gI_un (by decide), gI_us], by rw [← hT3, gI_un (by decide), gI_us], tkd_n (by omega) (by omega), 0, by omega, h31⟩
          have ev := ev_all (x := x3) hA hkd hne hi4
          have hM : f_M_act S1 (iN s) (iN i) x3 = some (vA i (5 + ckd m f t) (iN f) (iN t) x3, pms T3 (bA i (5 + ckd m f t))) := by
            rw [mA0 q q2, m0, a209, if_pos rfl, a210, (dv40 hf htt).1, (dv40 hf htt).2, pM_kindOf hn1, bd_s, tkd_n (by omega) (by omega), if_z (by omega), if_neg z, a209, bd_s, if_pos rfl, is4, ck_t, cs4, a210, a210', (dv40 hf htt).1, (dv40 hf htt).2, hT3, ev, bd_s, if_pos (Ac.ps _ hA).2.1]
          generalize bA i (5 + ckd m f t) = l at hlen b1 hM
          have b2 := pus_n (a := 191) (i := 31) (b := 212) (by decide) l T3 0 (by omega) h31
          have o2 : ∀ a i, a ≠ 212 → ¬ (a = 191 ∧ 31 ≤ i) → gI (pms T3 l) a i = gI S1 a i := fun a i z1 z2 => (pus_o (by omega) z1 l T3).trans (c3 a i z2)
          refine ⟨_, kLt (kNw (kLt k none) (5 + ckd m f t)) (some (213 + 2 * k.1)), S1, pms T3 l, cX, c_M_act w 755 _ S1 (iN s) (iN i) x3 hM, rfl, (show k.1 + 1 ≤ 1000 by omega), fun j => (o1 32 j (by omega)).1, ⟨h.ac (fun a i z1 z2 => (o2 a i (by omega) z2).trans (o1 a i (by omega)).1) (fun a i z1 => ((pus_J l T3).trans (j3 a i)).trans (o1 a i (by omega)).2) (Or.inr ⟨k.1, l.length, rfl, Nat.lt_succ_self _, hlen, ?_, ?_, fun i hi => ?_⟩), fun j hj => ?_⟩, Nat.le_refl _⟩
          · have b := b1.1
            rw [Nat.zero_add] at b
            exact (o2 _ _ (by omega) (by omega)).trans b
          · have b := b2.1
            rw [Nat.zero_add] at b
            exact b
          · have b := b1.2.2 i hi
            have b' := b2.2.2 i hi
            rw [Nat.zero_add] at b b'
            rw [show 214 + 2 * k.1 = 213 + 2 * k.1 + 1 by omega]
            exact ((o2 _ _ (by omega) (by omega)).trans b).trans b'.symm
          · have hj : j < k.1 + 1 := hj
            show 6 ≤ (if 213 + 2 * j = 213 + 2 * k.1 then 5 + ckd m f t else k.2.2.1 (213 + 2 * j)) ∧ (if 213 + 2 * j = 213 + 2 * k.1 then 5 + ckd m f t else k.2.2.1 (213 + 2 * j)) ≤ 10
            by_cases e : j = k.1
            · rw [if_pos (by omega)]; omega
            · rw [if_neg (by omega)]; exact hI.2 j (by omega)
      · refine act_none hI hk (c_X_act0 w 993 k S (iN s) x2 x3 hS1 q2 is4 (by rw [x0, g2, if_neg (by decide)])) ?_
        rw [mA0 q q2, m0, n31 (by decide), g2, if_neg (by decide), bd_s, if_neg (by decide)]
    · refine act_none hI hk (c_X_actB w 993 k S (iN s) x2 x3 hS1 q2) ?_
      unfold f_M_act
      rw [(sh_y q).2.2.2, bd_s, if_neg (by decide), (sh_n q2).2.2.2, bd_s, if_pos rfl]
  · refine act_none hI hk (c_X_actN w 993 k S x1 x2 x3 (sh_n q).2.1) ?_
    unfold f_M_act
    rw [(sh_n q).2.2.2, bd_s, if_pos rfl]
end
