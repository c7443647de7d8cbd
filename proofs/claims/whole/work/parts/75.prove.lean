/-! prove. -/
def rwF (d : Nat → Nat) (m : Nat → Int32) (E : Nat → Nat → Bool) : Nat → Nat → Nat → List (Nat × Nat)
  | 0, _, _ => []
  | r + 1, u, s => match nxt d m E u with
    | none => []
    | some v => (v, s + lNg m v) :: rwF d m E r v (s + lNg m v)
theorem rwF_n {d : Nat → Nat} {m : Nat → Int32} {E : Nat → Nat → Bool} {r u s : Nat} (h : nxt d m E u = none) : rwF d m E (r + 1) u s = [] := by rw [rwF, h]
theorem rwF_s {d : Nat → Nat} {m : Nat → Int32} {E : Nat → Nat → Bool} {r u s v : Nat} (h : nxt d m E u = some v) : rwF d m E (r + 1) u s = (v, s + lNg m v) :: rwF d m E r v (s + lNg m v) := by rw [rwF, h]
theorem rwF_l {d : Nat → Nat} {m : Nat → Int32} {E : Nat → Nat → Bool} : ∀ (r u s : Nat), (rwF d m E r u s).length ≤ r := by
  intro r
  induction r with
  | zero => intro u s; exact Nat.le_refl _
  | succ r ih =>
    intro u s
    cases h : nxt d m E u with
    | none => rw [rwF_n h]; exact Nat.zero_le _
    | some v => rw [rwF_s h]; have := ih v (s + lNg m v); show _ + 1 ≤ _; omega
def rwI (m : Nat → Int32) (p : Nat × Nat) (k : Nat) : Int32 := if k = 0 then iN p.1 else if k = 1 then iN (enn m p.1) else iN p.2
section
variable {k : cx} {S S1 S2 T : hs} {m m' : Nat → Int32} {l : Lz} {E : Nat → Nat → Bool}
theorem dF_fr {P : Nat → Prop} (f : Fr P S T) (q : ¬ P 144) : dF T = dF S := by
  funext x
  unfold dF
  rw [(f 144 q).1 x]
theorem dOk.fr {P : Nat → Prop} (h : dOk S m) (f : Fr P S T) (q : ¬ P 144) : dOk T m := fun u hu => by rw [dF_fr f q, (f 144 q).1 u]; exact h u hu
theorem l3 {i : Nat} (h : i < 40) : ¬ iN i = (-3 : Int32) := fun z => by have := congrArg Int32.toInt z; rw [iN_i (by omega)] at this; have e : (-3 : Int32).toInt = -3 := rfl; rw [e] at this; omega
theorem l20 {i : Nat} (h : i < 20) : ¬ (20 : Int32) ≤ iN i := le_n (b := (i : Int)) (a := 20) rfl (iN_i (by omega)) (by omega)
theorem l20e : (20 : Int32) ≤ iN 20 := by decide
theorem wr_l {d : Nat → Nat} (v0 : VM m) : ∀ (r i n u s : Nat) (T : hs), Wy T m E → dOk T m → dF T = d → cIs m u = true → s + 18 * r ≤ 100000 → i + r = 20 → r < n → ∃ U, lp_W_writeRows_170_8 n T (iN u) (iN s) (iN i) = some (iN (i + (rwF d m E r u s).length), U) ∧ Fr (fun q => 171 + i ≤ q ∧ q < 191) T U ∧ ∀ j, j < (rwF d m E r u s).length → ∀ k, k < 3 → gI U (171 + (i + j)) k = rwI m ((rwF d m E r u s).getD j (0, 0)) k := by
  have hss := v0.s.2
  intro r
  induction r with
  | zero =>
    intro i n u s T hW hM hd cu hs hi hn
    obtain ⟨n, rfl⟩ : ∃ q, n = q + 1 := ⟨n - 1, by omega⟩
    obtain rfl : i = 20 := by omega
    exact ⟨T, by rw [lp_W_writeRows_170_8, if_pos l20e]; rfl, Fr.rfl', fun j hj => absurd hj (by show ¬ j < 0; omega)⟩
  | succ r ih =>
    intro i n u s T hW hM hd cu hs hi hn
    obtain ⟨n, rfl⟩ : ∃ q, n = q + 1 := ⟨n - 1, by omega⟩
    have ff := pW_firstFrom hW v0 hM cu
    rw [hd] at ff
    rw [lp_W_writeRows_170_8, if_neg (l20 (by omega)), if_neg (l20 (by omega)), ff, bd_s]
    cases hx : nxt d m E u with
    | none =>
      rw [rwF_n hx]
      exact ⟨T, rfl, Fr.rfl', fun j hj => absurd hj (by show ¬ j < 0; omega)⟩
    | some v =>
      obtain ⟨cv, hv⟩ := nxt_c hx
      have lv := lNg_r v0 hv
      have oc : oC (-3) (some v) = iN v := rfl
      have e140 : gI T 140 v = iN (enn m v) := (hW.1.2.2.1 v hv).2.1
      have e141 : gI T 141 v = iN (lNg m v) := (hW.1.2.2.1 v hv).2.2
      rw [oc, if_neg (l3 (by omega)), ck_of (iN_b (by omega) (by decide)), ck_of (iN_b (by omega) (by decide)), iN_c (by omega), iN_c (by omega), gI_ua (by omega), e140, e141, iN_a, iN_1]
      generalize hV : uI (uI (uI T (171 + i) 0 (iN v)) (171 + i) 1 (iN (enn m v))) (171 + i) 2 (iN (s + lNg m v)) = V
      have f1 : Fr (fun q => 171 + i ≤ q ∧ q < 191) T V := by
        rw [← hV]
        exact ((Fr.rfl'.uI (by omega)).uI (by omega)).uI (by omega)
      have r1 : ∀ k, k < 3 → gI V (171 + i) k = rwI m (v, s + lNg m v) k := fun k hk => by
        rw [← hV]
        have : k = 0 ∨ k = 1 ∨ k = 2 := by omega
        rcases this with rfl | rfl | rfl
        · rw [gI_un (by omega), gI_un (by omega), gI_us]; rfl
        · rw [gI_un (by omega), gI_us]; rfl
        · rw [gI_us]; rfl
      obtain ⟨U, a1, a2, a3⟩ := ih (i + 1) n v (s + lNg m v) V (hW.fr f1 (fun a h1 h2 z => by omega)) (hM.fr f1 (by omega)) ((dF_fr f1 (by omega)).trans hd) cv (by omega) (by omega) (by omega)
      rw [rwF_s hx]
      refine ⟨U, ?_, f1.trans (a2.mono (fun a z => by omega)), fun j hj k hk => ?_⟩
      · rw [a1]
        congr 2
        show iN (i + 1 + _) = iN (i + (_ + 1))
        congr 1
        omega
      · cases j with
        | zero =>
          show gI U (171 + i) k = rwI m (v, s + lNg m v) k
          rw [(a2 (171 + i) (by omega)).1 k]
          exact r1 k hk
        | succ j =>
          have hj : j + 1 < (rwF d m E r v (s + lNg m v)).length + 1 := hj
          have := a3 j (by omega) k hk
          rw [show 171 + (i + (j + 1)) = 171 + (i + 1 + j) from by omega, this]
          rfl
/-- what the model's rows do -/
def frP (T U : hs) : Prop := (∀ a i, a ≠ 202 → a ≠ 205 → ¬ (a = 191 ∧ i = 23) → gI U a i = gI T a i) ∧ ∀ a i, a ≠ 202 → gJ U a i = gJ T a i
theorem frP.trans {U V : hs} (h : frP T U) (h' : frP U V) : frP T V := ⟨fun a i q1 q2 q3 => (h'.1 a i q1 q2 q3).trans (h.1 a i q1 q2 q3), fun a i q => (h'.2 a i q).trans (h.2 a i q)⟩
theorem Tn.frP {U : hs} (h : Tn T m) (f : frP T U) : Tn U m := ⟨h.1, fun i hi => (f.1 192 i (by omega) (by omega) (by omega)).trans (h.2 i hi)⟩
theorem On.frP {U : hs} {G : Nat → Nat → Bool} (h : On T G) (f : frP T U) : On U G := fun u hu v hv => by rw [f.2 201 u (by omega)]; exact h u hu v hv
theorem frP.of {U : hs} (f : Fr (fun q => q = 202) T U) : frP T U := ⟨fun a i q1 _ _ => (f a q1).1 i, fun a i q => (f a q).2 i⟩
theorem l0 {i : Nat} (h : i < 2147483648) : ¬ iN i < (0 : Int32) := lt_n (iN_i h) tl0 (by omega)
theorem mpr_l {Tk : hs} {c : Int32} (hM : Ms Tk m E (tgC m c)) : ∀ (r i n u s : Nat) (T : hs), Tn T m → On T (eC E (cIs m)) → gI T 191 23 = iN i → cIs m u = true → s + 18 * r ≤ 100000 → i + r = 20 → r < n → ∃ U, lp_M_prove_55 c n T (iN s) (oC (-1) (nxt (dF Tk) m E u)) = some (iN (i + (rwF (dF Tk) m E r u s).length), U) ∧ frP T U ∧ gI U 191 23 = iN (i + (rwF (dF Tk) m E r u s).length) ∧ (∀ x, x < 3 * i → gI U 205 x = gI T 205 x) ∧ ∀ j, j < (rwF (dF Tk) m E r u s).length → ∀ k, k < 3 → gI U 205 (3 * (i + j) + k) = rwI m ((rwF (dF Tk) m E r u s).getD j (0, 0)) k := by
  intro r
  induction r with
  | zero =>
    intro i n u s T hT hO e23 cu hs hi hn
    obtain ⟨n, rfl⟩ : ∃ q, n = q + 1 := ⟨n - 1, by omega⟩
    obtain rfl : i = 20 := by omega
    refine ⟨T, ?_, ⟨fun _ _ _ _ _ => rfl, fun _ _ _ => rfl⟩, e23, fun _ _ => rfl, fun j hj => absurd hj (by show ¬ j < 0; omega)⟩
    rw [lp_M_prove_55]
    cases hx : nxt (dF Tk) m E u with
    | none =>
      rw [if_pos (by decide), e23]; rfl
    | some v =>
      have hv := (nxt_c hx).2
      have hss := hT.1.s.2
      have oc : oC (-1) (some v) = iN v := rfl
      rw [oc, if_neg (l0 (by omega)), e23, if_pos l20e]; rfl
  | succ r ih =>
    intro i n u s T hT hO e23 cu hs hi hn
    obtain ⟨n, rfl⟩ : ∃ q, n = q + 1 := ⟨n - 1, by omega⟩
    have hss := hT.1.s.2
    cases hx : nxt (dF Tk) m E u with
    | none =>
      rw [rwF_n hx]
      refine ⟨T, ?_, ⟨fun _ _ _ _ _ => rfl, fun _ _ _ => rfl⟩, e23, fun _ _ => rfl, fun j hj => absurd hj (by show ¬ j < 0; omega)⟩
      rw [lp_M_prove_55, if_pos (by decide), e23]; rfl
    | some v =>
      obtain ⟨cv, hv⟩ := nxt_c hx
      have lv := lNg_r hT.1 hv
      have oc : oC (-1) (some v) = iN v := rfl
      have lo : f_M_longOf T (iN v / (2 : Int32)) = some (iN (lNg m v), T) := by rw [iN_d2 (by omega)]; exact pM_longOf hT (half_lt hv)
      have i3 : (3 : Int32) * iN i = iN (3 * i) := iN_ml 3 i rfl
      have a1 : iN (3 * i) + (1 : Int32) = iN (3 * i + 1) := iN_1 _
      have a2 : iN (3 * i) + (2 : Int32) = iN (3 * i + 2) := iN_a _ 2
      have hT1 : Tn (uI T 205 (3 * i) (iN v)) m := hT.fr (P := fun q => q = 205) (Fr.rfl'.uI rfl) (by decide)
      have step : lp_M_prove_55 c (n + 1) T (iN s) (iN v) = bd (f_M_firstOf (uI (uI (uI (uI T 205 (3 * i) (iN v)) 205 (3 * i + 1) (iN (enn m v))) 205 (3 * i + 2) (iN (s + lNg m v))) 191 23 (iN (i + 1))) (iN v) c) fun r30 S31 => lp_M_prove_55 c n S31 (iN (s + lNg m v)) r30 := by
        rw [lp_M_prove_55, if_neg (l0 (by omega)), e23, if_neg (l20 (by omega)), lo, bd_s, e23, i3, ck_of (iN_b (by omega) (by decide)), iN_c (by omega), pM_endOf hT1 hv, bd_s, gI_ua (by omega), e23, i3, a1, ck_of (iN_b (by omega) (by decide)), iN_c (by omega), gI_ua (by omega), gI_ua (by omega), e23, i3, a2, ck_of (iN_b (by omega) (by decide)), iN_c (by omega), gI_ua (by omega), gI_ua (by omega), gI_ua (by omega), e23, iN_a, iN_1]
      generalize hV : uI (uI (uI (uI T 205 (3 * i) (iN v)) 205 (3 * i + 1) (iN (enn m v))) 205 (3 * i + 2) (iN (s + lNg m v))) 191 23 (iN (i + 1)) = V at step
      have fV : frP T V := by
        rw [← hV]
        exact ⟨fun a x q1 q2 q3 => by rw [gI_u, if_neg q3, gI_ua q2, gI_ua q2, gI_ua q2], fun a x q => rfl⟩
      have r1 : ∀ k, k < 3 → gI V 205 (3 * i + k) = rwI m (v, s + lNg m v) k := fun k hk => by
        rw [← hV, gI_ua (by omega)]
        have : k = 0 ∨ k = 1 ∨ k = 2 := by omega
        rcases this with rfl | rfl | rfl
        · rw [gI_un (by omega), gI_un (by omega), Nat.add_zero, gI_us]; rfl
        · rw [gI_un (by omega), gI_us]; rfl
        · rw [gI_us]; rfl
      have r2 : ∀ x, x < 3 * i → gI V 205 x = gI T 205 x := fun x hx => by
        rw [← hV, gI_ua (by omega), gI_un (by omega), gI_un (by omega), gI_un (by omega)]
      have r3 : gI V 191 23 = iN (i + 1) := by rw [← hV, gI_us]
      obtain ⟨W, b1, b2⟩ := pM_firstOf hM cv (hT.frP fV) (hO.frP fV)
      have fW := frP.of b2
      obtain ⟨U, c1, c2, c3, c4, c5⟩ := ih (i + 1) n v (s + lNg m v) W ((hT.frP fV).frP fW) ((hO.frP fV).frP fW) (((b2 191 (n202 (by decide))).1 23).trans r3) cv (by omega) (by omega) (by omega)
      have e205 : ∀ x, gI W 205 x = gI V 205 x := fun x => (b2 205 (n202 (by decide))).1 x
      rw [rwF_s hx, oc]
      have hlen : i + 1 + (rwF (dF Tk) m E r v (s + lNg m v)).length = i + ((v, s + lNg m v) :: rwF (dF Tk) m E r v (s + lNg m v)).length := by show _ = i + (_ + 1); omega
      rw [hlen] at c1 c3
      refine ⟨U, ?_, (fV.trans fW).trans c2, c3, fun x hx => ?_, fun j hj k hk => ?_⟩
      · rw [step, b1, bd_s]; exact c1
      · rw [c4 x (by omega), e205, r2 x hx]
      · cases j with
        | zero =>
          show gI U 205 (3 * (i + 0) + k) = rwI m (v, s + lNg m v) k
          rw [Nat.add_zero, c4 _ (by omega), e205]
          exact r1 k hk
        | succ j =>
          have hj : j + 1 < (rwF (dF Tk) m E r v (s + lNg m v)).length + 1 := hj
          have := c5 j (by omega) k hk
          rw [show 3 * (i + (j + 1)) = 3 * (i + 1 + j) from by omega, this]
          rfl
theorem Inv.rws (h : Inv k S) (e : ∀ a i, ¬ Scr a → a ≠ 205 → ¬ (171 ≤ a ∧ a < 191) → ¬ (a = 33 ∧ i = 6) → ¬ (a = 191 ∧ i = 23) → gI T a i = gI S a i) (f : ∀ a i, ¬ Scr a → ¬ (171 ≤ a ∧ a < 191) → gJ T a i = gJ S a i) (hR : IvR T) : Inv k T := by
  obtain ⟨⟨m, l, hc, hn, hlc, hlm⟩, hk, hr, hp, hh, hg, ha, hs, hi⟩ := h
  have e' : ∀ a i, (a ≠ 80 ∧ (a < 138 ∨ (158 < a ∧ a < 200 ∨ 204 < a)) ∧ a ≠ 205 ∧ ¬ (171 ≤ a ∧ a < 191) ∧ ¬ (a = 33 ∧ i = 6) ∧ ¬ (a = 191 ∧ i = 23)) → gI T a i = gI S a i := fun a i q => e a i (nScr (by omega)) (by omega) (by omega) (by omega) (by omega)
  refine ⟨⟨m, l, ⟨hc.1, hc.2.cg (fun a h1 h2 i => e' a i (by omega)) hc.1.c.2 hc.1.s.2 hc.1.w.2⟩, ⟨hn.1, fun i hi => (e' 192 i (by omega)).trans (hn.2 i hi)⟩, hlc.cg (e' _ _ (by omega)) (fun i _ => e' _ _ (by omega)) (fun i _ => e' _ _ (by omega)) (fun i _ => e' _ _ (by omega)) (fun i _ => e' _ _ (by omega)) (fun i _ => e' _ _ (by omega)), hlm⟩, hk.cg (fun a i q => e' a i (by omega)), hR, hp.cg (fun a i q => e' a i (by omega)), hh.cg (fun a i q => e' a i (by omega)) (fun a i q1 q2 => f a i (nScr (by omega)) (by omega)), hg.cg (fun a i q => e' a i (by omega)), ha.cg (fun a i q => e' a i (by omega)), hs.cg (fun a i q1 q2 => e' a i (by omega)), (e' 191 3 (by omega)).trans hi⟩
theorem q_prove (h : Inv k S) (x y : Int32) : Q2 k S (f_X_prove S x y) (fun T => f_M_prove T x y) := by
  obtain ⟨m, l, ht⟩ := h.1
  have hc := ht.1
  have hn := ht.2.1
  have hss := hc.1.s.2
  by_cases q : cIx m x = true
  · by_cases qc : 0 ≤ y.toInt ∧ y.toInt < (nCr m : Int)
    · obtain ⟨u, rfl, cu, hu, h40⟩ := cIx_e hc.1 q
      obtain ⟨S1, U1, a1, a2, a3, a4, a5, a6, S2, a7, a8, a9, a10⟩ := far2 h ht (w := 0) (by omega) y
      have a1 : f_W_prepare_34 S (0 : Int32) (-1 : Int32) = some (0, S1) := a1
      have lf := pW_leftFrom a4 hc.1 a5.1 hu
      obtain ⟨S3, r, b1, b2, b3⟩ := pM_farOf (fun u v g => eC_lt g) hu y a10 a9
      rcases far_cmp a5 b3 cu with ⟨e1, e2⟩ | ⟨e1, e2⟩
      · clear b1 b2 a7 a8 a9 a10 S2 S3
        obtain ⟨U2, w1, w2, w3⟩ := wr_l (d := dF U1) hc.1 20 0 1000 u 0 U1 a4 a5.1 rfl cu (by omega) (by omega) (by omega)
        have hlen := rwF_l (d := dF U1) (m := m) (E := fun u v => mgW m l u v 0) 20 u 0
        rw [Nat.zero_add] at w1
        generalize hL : rwF (dF U1) m (fun u v => mgW m l u v 0) 20 u 0 = L at w1 w3 hlen
        have w1 : f_W_writeRows_170 U1 (iN u) = some (iN L.length, U2) := w1
        have fU : ∀ a i, ¬ Scr a → ¬ (171 ≤ a ∧ a < 191) → ¬ (a = 33 ∧ i = 6) → gI (uI U2 33 6 (iN L.length)) a i = gI S a i := fun a i q1 q2 q3 => by
          rw [gI_u, if_neg q3, (w2 a (by omega)).1 i, (a3 a q1).1 i]
        have fUJ : ∀ a i, ¬ Scr a → ¬ (171 ≤ a ∧ a < 191) → gJ (uI U2 33 6 (iN L.length)) a i = gJ S a i := fun a i q1 q2 => by
          rw [gJ_I, (w2 a (by omega)).2 i, (a3 a q1).2 i]
        have fU1 : ∀ a i, ¬ (171 ≤ a ∧ a < 191) → ¬ (a = 33 ∧ i = 6) → gI (uI U2 33 6 (iN L.length)) a i = gI U1 a i := fun a i q2 q3 => by
          rw [gI_u, if_neg q3, (w2 a (by omega)).1 i]
        have hnV : Tn (uI U2 33 6 (iN L.length)) m := ⟨hn.1, fun i hi => by rw [fU1 192 i (by omega) (by omega)]; exact a6.2.1.2 i hi⟩
        have h3V : gI (uI U2 33 6 (iN L.length)) 191 3 = -1 := by rw [fU1 191 3 (by omega) (by omega)]; exact fr3 h a3
        have rows : ∀ j, j < L.length → ∀ k, k < 3 → gI (uI U2 33 6 (iN L.length)) (171 + j) k = rwI m (L.getD j (0, 0)) k := fun j hj k hk => by
          rw [gI_ua (by omega)]
          have := w3 j hj k hk
          rw [Nat.zero_add] at this
          exact this
        have c33 : gI (uI U2 33 6 (iN L.length)) 33 6 = iN L.length := gI_us
        generalize hV : uI U2 33 6 (iN L.length) = V at fU fUJ fU1 hnV h3V rows c33
        obtain ⟨S2, a7, a8, a9⟩ := pM_findOnto (PrM.law (m := m) (l := l) (w := 0) (by omega) ht.2.2.2) (S := V) ⟨hnV, h3V⟩
        have a7 : f_M_findOnto V (0 : Int32) (0 : Int32) = some (0, S2) := a7
        have a10 : Tn S2 m := hnV.fr a8 (nOn (by omega))
        obtain ⟨S3, r', b1, b2, b3'⟩ := pM_farOf (G := eC (fun u v => mgW m l u v 0) (cIs m)) (fun u v g => eC_lt g) hu y a10 a9
        obtain rfl := FarIs.uniq b3 b3'
        have fr1 : frP S3 (uI S3 191 23 (0 : Int32)) := ⟨fun a x q1 q2 q3 => by rw [gI_u, if_neg q3], fun a x q => rfl⟩
        have t3 := a10.fr b2 (n202 (by decide))
        have o3 : On S3 (eC (fun u v => mgW m l u v 0) (cIs m)) := On.fr a9 b2 (n202 (by decide))
        obtain ⟨S4, d1, d2⟩ := pM_firstOf a5 cu (t3.frP fr1) (o3.frP fr1)
        have fr2 := frP.of d2
        have c23 : gI S4 191 23 = iN 0 := ((d2 191 (n202 (by decide))).1 23).trans gI_us
        obtain ⟨S5, e1', e2', e3', e4', e5'⟩ := mpr_l a5 20 0 1000 u 0 S4 ((t3.frP fr1).frP fr2) ((o3.frP fr1).frP fr2) c23 cu (by omega) (by omega) (by omega)
        rw [hL, Nat.zero_add] at e1' e3'
        rw [hL] at e5'
        have fr4 : frP S3 S5 := (fr1.trans fr2).trans e2'
        have gV : ∀ a i, ¬ Scr a → a ≠ 205 → ¬ (a = 191 ∧ i = 23) → gI S5 a i = gI V a i := fun a i q1 q2 q3 => by
          have n200 : a ≠ 200 ∧ a ≠ 201 ∧ a ≠ 202 := by unfold Scr at q1; omega
          rw [fr4.1 a i n200.2.2 q2 q3, (b2 a n200.2.2).1 i, (a8 a (nOn (by omega))).1 i]
        have gVJ : ∀ a i, ¬ Scr a → gJ S5 a i = gJ V a i := fun a i q1 => by
          have n200 : a ≠ 200 ∧ a ≠ 201 ∧ a ≠ 202 := by unfold Scr at q1; omega
          rw [fr4.2 a i n200.2.2, (b2 a n200.2.2).2 i, (a8 a (nOn (by omega))).2 i]
        refine ⟨iN L.length, V, S5, ?_, ?_, fun j => fU 32 j (nScr (by omega)) (by omega) (by omega), h.rws (fun a i q1 q2 q3 q4 q5 => ?_) (fun a i q1 q2 => ?_) ⟨L.length, hlen, ?_, e3', fun j hj k hk => ?_⟩⟩
        · unfold f_X_prove
          rw [hco_y hc q, bd_s, if_neg (by decide), hC_y hc qc, bd_s, if_neg (by decide), a1, bd_s, a2, bd_s, lf, bd_s, if_neg (ne6 (by omega) (by omega)), w1, bd_s, hV, c33]
        · show f_M_prove V _ _ = _
          unfold f_M_prove
          rw [mco_y hnV q, bd_s, if_neg (by decide), mC_y hnV qc, bd_s, if_neg (by decide), a7, bd_s, b1, bd_s, if_pos (lt5 (by omega)), d1, bd_s]
          exact e1'
        · rw [gV a i q1 q2 q5, fU a i q1 q3 q4]
        · rw [gVJ a i q1]; exact fUJ a i q1 q2
        · rw [gV 33 6 (nScr (by omega)) (by omega) (by omega)]; exact c33
        · rw [gV (171 + j) k (nScr (by omega)) (by omega) (by omega), rows j hj k hk]
          have := e5' j hj k hk
          rw [Nat.zero_add] at this
          exact this.symm
      · refine Q2.fr (r := -3) h (S1 := U1) (S2 := S3) ?_ ?_ a3 (a8.trans (f202 b2))
        · unfold f_X_prove
          rw [hco_y hc q, bd_s, if_neg (by decide), hC_y hc qc, bd_s, if_neg (by decide), a1, bd_s, a2, bd_s, lf, bd_s, e1, if_pos eq6]
        · show f_M_prove U1 _ _ = _
          unfold f_M_prove
          have a7 : f_M_findOnto U1 (0 : Int32) (0 : Int32) = some (0, S2) := a7
          rw [mco_y a6.2.1 q, bd_s, if_neg (by decide), mC_y a6.2.1 qc, bd_s, if_neg (by decide), a7, bd_s, b1, bd_s, e2, if_neg (by decide)]
    · refine Q2.same (r := -1) h ?_ ?_
      · unfold f_X_prove
        rw [hco_y hc q, bd_s, if_neg (by decide), hC_n hc qc, bd_s, if_pos rfl]
      · show f_M_prove S _ _ = _
        unfold f_M_prove
        rw [mco_y hn q, bd_s, if_neg (by decide), mC_n hn qc, bd_s, if_pos rfl]
  · have q := Bool.eq_false_iff.mpr q
    refine Q2.same (r := -1) h ?_ ?_
    · unfold f_X_prove
      rw [hco_n hc q, bd_s, if_pos rfl]
    · show f_M_prove S _ _ = _
      unfold f_M_prove
      rw [mco_n hn q, bd_s, if_pos rfl]
end
