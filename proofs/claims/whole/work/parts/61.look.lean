/-! Ways: what is looked at. -/
def WyP (a : Nat) : Prop := 138 ≤ a ∧ a ≤ 142
/-- the town as the ways have looked at it, up to course u -/
def Lk (S T : hs) (m : Nat → Int32) (u : Nat) : Prop := Fr WyP S T ∧ gI T 138 10 = iN (2 * nSt m) ∧ gI T 138 11 = iN (nCr m) ∧ (∀ v, v < u → gI T 139 v = iN (bgn m v) ∧ gI T 140 v = iN (enn m v) ∧ gI T 141 v = iN (qL m (v / 2))) ∧ (∀ v, v < 64 → jb (gJ T 138 8) v = (decide (v < u) && cIs m v)) ∧ (∀ v, v < 64 → jb (gJ T 138 9) v = (decide (v < u) && (wIs m v && !cIs m v)))
section
variable {k : cx} {S S1 S2 T : hs} {m m' : Nat → Int32} {l : Lz}
theorem nWy {a : Nat} (h : a < 138 ∨ 158 < a) : ¬ WyP a := fun q => by unfold WyP at q; omega
theorem look_step (hc : Tc S m) {u n : Nat} (hu : u < 2 * nSt m) (h : Lk S T m u) : ∃ U, lp_W_look_34_40 (n + 1) T (iN u) = lp_W_look_34_40 n U (iN (u + 1)) ∧ Lk S U m (u + 1) := by
  have hss := hc.1.s.2
  obtain ⟨f, c1, c2, e, j8, j9⟩ := h
  have np : ∀ a, 34 ≤ a → a < 74 → ¬ WyP a := fun a h1 h2 => nWy (by omega)
  have go : ∀ V, Fr WyP S V → (bd (f_T_beginOf V (iN u)) fun r37 S38 => ck (inb (iN u) 40) (bd (f_T_endOf (uI S38 139 (iN u).toNatClampNeg r37) (iN u)) fun r41 S42 => bd (f_T_longOf (uI S42 140 (iN u).toNatClampNeg r41) (iN u)) fun r44 S45 => lp_W_look_34_40 n (uI S45 141 (iN u).toNatClampNeg r44) (iN (u + 1)))) = lp_W_look_34_40 n (uI (uI (uI V 139 u (iN (bgn m u))) 140 u (iN (enn m u))) 141 u (iN (qL m (u / 2)))) (iN (u + 1)) := by
    intro V fV
    have f1 : Fr WyP S (uI V 139 u (iN (bgn m u))) := fV.uI ⟨by omega, by omega⟩
    have f2 : Fr WyP S (uI (uI V 139 u (iN (bgn m u))) 140 u (iN (enn m u))) := f1.uI ⟨by omega, by omega⟩
    rw [pT_beginOf (hc.fr fV np) hu, bd_s, ck_of (iN_b (by omega) (by decide)), iN_c (by omega), pT_endOf (hc.fr f1 np) hu, bd_s, pT_longOf (hc.fr f2 np) hu, bd_s]
  have fin : ∀ (cb wb : Int64), (∀ v, v < 64 → jb cb v = (decide (v = u) && cIs m v)) → (∀ v, v < 64 → jb wb v = (decide (v = u) && (wIs m v && !cIs m v))) → Lk S (uI (uI (uI (uJ (uJ T 138 8 (gJ T 138 8 ||| cb)) 138 9 (gJ T 138 9 ||| wb)) 139 u (iN (bgn m u))) 140 u (iN (enn m u))) 141 u (iN (qL m (u / 2)))) m (u + 1) := by
    intro cb wb hcb hwb
    refine ⟨((((f.uJ ⟨by omega, by omega⟩).uJ ⟨by omega, by omega⟩).uI ⟨by omega, by omega⟩).uI ⟨by omega, by omega⟩).uI ⟨by omega, by omega⟩, ?_, ?_, fun v hv => ?_, fun v hv => ?_, fun v hv => ?_⟩
    · rw [gI_ua (by omega), gI_ua (by omega), gI_ua (by omega)]; exact c1
    · rw [gI_ua (by omega), gI_ua (by omega), gI_ua (by omega)]; exact c2
    · by_cases z : v = u
      · subst z
        rw [gI_ua (by omega), gI_ua (by omega), gI_us, gI_ua (by omega), gI_us, gI_us]; exact ⟨rfl, rfl, rfl⟩
      · rw [gI_un z, gI_un z, gI_un z, gI_un z, gI_un z, gI_un z, gI_un z, gI_un z, gI_un z]; exact e v (by omega)
    · rw [gJ_I, gJ_I, gJ_I, gJ_un (by omega), gJ_us, jb_or, j8 v hv, hcb v hv]
      by_cases z : v = u
      · subst z; simp
      · by_cases z2 : v < u
        · have : v < u + 1 := by omega
          simp [z, z2, this]
        · have : ¬ v < u + 1 := by omega
          simp [z, z2, this]
    · rw [gJ_I, gJ_I, gJ_I, gJ_us, jb_or, j9 v hv, hwb v hv]
      by_cases z : v = u
      · subst z; simp
      · by_cases z2 : v < u
        · have : v < u + 1 := by omega
          simp [z, z2, this]
        · have : ¬ v < u + 1 := by omega
          simp [z, z2, this]
  have fV : ∀ a b, Fr WyP S (uJ (uJ T 138 8 a) 138 9 b) := fun a b => (f.uJ ⟨by omega, by omega⟩).uJ ⟨by omega, by omega⟩
  have b1 : ∀ v, v < 64 → jb ((1 : Int64) <<< ((iN u).toInt64 &&& 63)) v = decide (v = u) := fun v _ => jb_sh (by omega) v
  rw [lp_W_look_34_40, c1, if_neg (fun z => by have := (iN_le (by omega) (by omega)).mp z; omega), pT_hasCourse (hc.fr f np), bd_s, cIx_n (by omega), if_bI, iN_1]
  cases hcu : cIs m u with
  | false =>
    rw [bt_f, if_bI, bt_f, pT_hasWay (hc.fr (f.uJ (a := 138) (i := 8) (v := gJ T 138 8 ||| 0) ⟨by omega, by omega⟩) np), bd_s, if_bI, wIx_n (by omega), gJ_un (show 9 ≠ 8 by decide)]
    cases hwu : wIs m u with
    | false =>
      rw [bt_f]
      exact ⟨_, go _ (fV _ _), fin 0 0 (fun v hv => by rw [jb_0]; by_cases z : v = u <;> simp [z, hcu]) (fun v hv => by rw [jb_0]; by_cases z : v = u <;> simp [z, hwu])⟩
    | true =>
      rw [bt_t]
      exact ⟨_, go _ (fV _ _), fin 0 _ (fun v hv => by rw [jb_0]; by_cases z : v = u <;> simp [z, hcu]) (fun v hv => by rw [b1 v hv]; by_cases z : v = u <;> simp [z, hwu, hcu])⟩
  | true =>
    rw [bt_t, if_bI, bt_t, gJ_un (show 9 ≠ 8 by decide)]
    exact ⟨_, go _ (fV _ _), fin _ 0 (fun v hv => by rw [b1 v hv]; by_cases z : v = u <;> simp [z, hcu]) (fun v hv => by rw [jb_0]; by_cases z : v = u <;> simp [z, hcu])⟩
theorem look_l (hc : Tc S m) : ∀ (r u n : Nat) (T : hs), Lk S T m u → u + r = 2 * nSt m → r < n → ∃ U, lp_W_look_34_40 n T (iN u) = some (0, U) ∧ Lk S U m (2 * nSt m) := by
  have hss := hc.1.s.2
  intro r
  induction r with
  | zero =>
    intro u n T h hu hn
    obtain ⟨n, rfl⟩ : ∃ q, n = q + 1 := ⟨n - 1, by omega⟩
    obtain rfl : u = 2 * nSt m := by omega
    exact ⟨T, by rw [lp_W_look_34_40, h.2.1, if_pos ((iN_le (by omega) (by omega)).mpr (by omega))], h⟩
  | succ r ih =>
    intro u n T h hu hn
    obtain ⟨n, rfl⟩ : ∃ q, n = q + 1 := ⟨n - 1, by omega⟩
    obtain ⟨U, h1, h2⟩ := look_step (n := n) hc (by omega) h
    obtain ⟨V, h3, h4⟩ := ih (u + 1) n U h2 (by omega) (by omega)
    exact ⟨V, h1.trans h3, h4⟩
theorem pW_look (hc : Tc S m) : ∃ U, f_W_look_34 S = some (0, U) ∧ Lk S U m (2 * nSt m) := by
  have hss := hc.1.s.2
  have hcc := hc.1.c.2
  have f0 : Fr WyP S (uJ (uJ S 138 8 (0 : Int64)) 138 9 (0 : Int64)) := (Fr.rfl'.uJ ⟨by omega, by omega⟩).uJ ⟨by omega, by omega⟩
  have c0 := hc.fr f0 (fun a h1 h2 => nWy (by omega))
  unfold f_W_look_34
  have e2 : (2 : Int32) * iN (nSt m) = iN (2 * nSt m) := by show iN 2 * iN _ = _; rw [iN_m]
  rw [c0.s, e2]
  have m1 : f_Ma_min (uJ (uJ S 138 8 (0 : Int64)) 138 9 (0 : Int64)) (iN (2 * nSt m)) (40 : Int32) = some (iN (2 * nSt m), uJ (uJ S 138 8 (0 : Int64)) 138 9 (0 : Int64)) := by
    unfold f_Ma_min
    rw [if_neg (lt_n tl40 (iN_i (by omega)) (by omega))]
  rw [m1, bd_s]
  have f1 : Fr WyP S (uI (uJ (uJ S 138 8 (0 : Int64)) 138 9 (0 : Int64)) 138 10 (iN (2 * nSt m))) := f0.uI ⟨by omega, by omega⟩
  have c1 := hc.fr f1 (fun a h1 h2 => nWy (by omega))
  rw [c1.c]
  have m2 : f_Ma_min (uI (uJ (uJ S 138 8 (0 : Int64)) 138 9 (0 : Int64)) 138 10 (iN (2 * nSt m))) (iN (nCr m)) (12 : Int32) = some (iN (nCr m), uI (uJ (uJ S 138 8 (0 : Int64)) 138 9 (0 : Int64)) 138 10 (iN (2 * nSt m))) := by
    unfold f_Ma_min
    rw [if_neg (lt_n tl12 (iN_i (by omega)) (by omega))]
  rw [m2, bd_s]
  refine look_l hc (2 * nSt m) 0 1000 _ ⟨f1.uI ⟨by omega, by omega⟩, ?_, ?_, fun v hv => by omega, fun v hv => ?_, fun v hv => ?_⟩ (by omega) (by omega)
  · rw [gI_un (by omega), gI_us]
  · rw [gI_us]
  · rw [gJ_I, gJ_I, gJ_un (by omega), gJ_us, jb_0]; simp
  · rw [gJ_I, gJ_I, gJ_us, jb_0]; simp
end
