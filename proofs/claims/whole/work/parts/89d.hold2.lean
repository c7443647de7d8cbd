/-! The model's clause holds by what its codes push; the model's reader once it has failed. -/
section
variable {k : cx} {S S1 S2 T : hs} {m : Nat → Int32} {B : Nat → Nat} {n : Nat}
theorem pM_holds {q p e a b w : Nat} {L : List Int32} {v : (Nat → Int32) → Bool} (h : PushM q L v) (hq : q ≤ 40) (hT : Tn T m) (ha : a < 2 * nSt m) (hb : b < 2 * nSt m) (hp : p + L.length = e) (he : e ≤ 200) (hc : CdA m p L) : ∃ U, f_M_holds T (iN p) (iN e) (iN a) (iN b) (iN w) = some (bI (v (fcs m a b w)), U) ∧ Fr (fun q => q = 200) T U := by
  have f0 : Fr (fun q => q = 200) T (uI T 200 0 (1 : Int32)) := Fr.rfl'.uI rfl
  obtain ⟨U, a1, a2, a3, -⟩ := h (uI T 200 0 (1 : Int32)) m a b w e (999 - L.length + 1) p 0 (fun (S18 : hs) (y19 : Int32) (y20 : Int32) => (if (gI S18 200 0) = (1 : Int32) then some ((1 : Int32), S18) else some ((0 : Int32), S18))) (hT.fr f0 (by decide)) ha hb (by omega) he (by omega) hc
  refine ⟨U, ?_, f0.trans a2⟩
  unfold f_M_holds
  rw [show 999 - L.length + 1 + L.length = 1000 from by omega] at a1
  refine Eq.trans a1 ?_
  rw [hp, lp_M_holds_13, if_pos ((iN_le (by omega) (by omega)).mpr (by omega)), a3]
  cases v (fcs m a b w) <;> rfl
theorem pM_holds0 {p a b w : Nat} (hp : p ≤ 200) : ∃ U, f_M_holds T (iN p) (iN p) (iN a) (iN b) (iN w) = some (1, U) ∧ Fr (fun q => q = 200) T U := by
  have f0 : Fr (fun q => q = 200) T (uI T 200 0 (1 : Int32)) := Fr.rfl'.uI rfl
  refine ⟨_, ?_, f0⟩
  unfold f_M_holds
  rw [lp_M_holds_13, if_pos ((iN_le (by omega) (by omega)).mpr (by omega)), gI_us, if_pos rfl]
theorem one_1 {i : Nat} {C : List Int32} (h : MP S B n i 1 C) {oc : hs → Option (Int32 × hs)} : f_M_one oc S = some (0, S) := by
  unfold f_M_one
  rw [h.2.2.2.1, if_neg (by decide)]
theorem fx_1 {i f : Nat} {C : List Int32} (h : MP S B n i 1 C) : fx_oc (f + 1) S = some (0, S) := one_1 h
theorem al4_1 {i f : Nat} {C : List Int32} (h : MP S B n i 1 C) {oc : hs → Option (Int32 × hs)} : lp_M_all_4 oc (f + 1) S = some (0, S) := by
  rw [lp_M_all_4, h.2.2.2.1, if_neg (by decide)]
theorem all_1 {i : Nat} {C : List Int32} (h : MP S B n i 1 C) {oc : hs → Option (Int32 × hs)} (ho : oc S = some (0, S)) : f_M_all oc S = some (0, S) := by
  unfold f_M_all
  rw [ho, bd_s]; exact al4_1 h
theorem cd4_1 {i f : Nat} {C : List Int32} (h : MP S B n i 1 C) {oc : hs → Option (Int32 × hs)} : lp_M_condition_4 oc (f + 1) S = some (0, S) := by
  rw [lp_M_condition_4, h.2.2.2.1, if_neg (by decide)]
theorem cond_1 {i : Nat} {C : List Int32} (h : MP S B n i 1 C) {oc : hs → Option (Int32 × hs)} (ho : oc S = some (0, S)) : f_M_condition oc S = some (0, S) := by
  unfold f_M_condition
  rw [all_1 h ho, bd_s]; exact cd4_1 h
end
