/-! What holds between the two, from call to call. -/
def txB : List (List Int32) := [[116, 117, 114, 110], [111, 110], [108, 101, 102, 116], [115, 104, 97, 114, 112], [114, 105, 103, 104, 116], [114, 111, 117, 110, 100], [119, 105, 100, 101], [119, 97, 115], [108, 111, 110, 103], [100, 97, 121], [119, 105, 100, 116, 104], [112, 108, 97, 99, 101], [105, 102], [111, 114], [97, 110, 100], [110, 111, 116]]
def IvT (S : hs) (m : Nat → Int32) (l : Lz) : Prop := Tc S m ∧ Tn S m ∧ LwC (fun a i => gI S a i) l ∧ LwM m l
def IvK (S : hs) : Prop := gI S 33 7 = gI S 191 2 ∧ (gI S 191 2 = 0 ∨ (gI S 191 2 = 1 ∧ ∃ (m : Nat → Int32) (l : Lz), VM m ∧ TB (fun a i => gI S (a + 47) i) m ∧ LwC (fun a i => gI S (a + 47) i) l ∧ (∀ i, i < 358 → gI S 193 i = m i) ∧ LwM m l))
def IvR (S : hs) : Prop := ∃ r : Nat, r ≤ 20 ∧ gI S 33 6 = iN r ∧ gI S 191 23 = iN r ∧ ∀ i, i < r → ∀ k, k < 3 → gI S (171 + i) k = gI S 205 (3 * i + k)
def IvP (S : hs) : Prop := ∃ n : Nat, n ≤ 200 ∧ gI S 128 2 = iN n ∧ gI S 191 5 = iN n ∧ ∀ i, i < n → ∃ b : Nat, b < 256 ∧ gI S 194 i = iN b ∧ gI S 135 i = (iN b).toInt8.toInt32
def IvH (S : hs) : Prop := (∀ s, s < 4 → gI S 160 s = gI S 207 s ∧ gI S 161 s = gI S 208 s ∧ (-1 ≤ (gI S 207 s).toInt ∧ (gI S 207 s).toInt ≤ 4) ∧ (0 ≤ (gI S 208 s).toInt ∧ (gI S 208 s).toInt ≤ 40) ∧ ∀ i, i < 40 → gJ S (163 + s) i = (gI S 206 (40 * s + i)).toInt64)
def IvG (S : hs) : Prop := (∀ s, s < 4 → gI S 167 s = gI S 209 s ∧ (gI S 209 s = 0 ∨ (gI S 209 s = 1 ∧ ∃ f t : Nat, f < 40 ∧ t < 40 ∧ gI S 168 s = iN f ∧ gI S 169 s = iN t ∧ gI S 210 s = iN (40 * f + t)) ∨ (gI S 209 s = 2 ∧ gI S 168 s = gI S 210 s ∧ gI S 169 s = gI S 211 s ∧ 0 ≤ (gI S 210 s).toInt ∧ (gI S 210 s).toInt ≤ 4)))
def IvA (k : cx) (S : hs) : Prop := (k.2.2.2 = none ∧ gI S 191 31 = 0) ∨ ∃ j n : Nat, k.2.2.2 = some (213 + 2 * j) ∧ j < k.1 ∧ n ≤ 30 ∧ gI S (213 + 2 * j) 3 = iN n ∧ gI S 191 31 = iN n ∧ ∀ i, i < n → gI S (214 + 2 * j) i = gI S 212 i
def IvS (S : hs) : Prop := ∀ i, i < 16 → ∀ j, j < (tK (16 + i)).2 → gI S (16 + i) j = (txB.getD i []).getD j 0
def Inv (k : cx) (S : hs) : Prop := (∃ (m : Nat → Int32) (l : Lz), IvT S m l) ∧ IvK S ∧ IvR S ∧ IvP S ∧ IvH S ∧ IvG S ∧ IvA k S ∧ IvS S ∧ gI S 191 3 = -1
/-- addresses that no promise rests on from call to call: what a question uses -/
def Scr (a : Nat) : Prop := a = 80 ∨ (138 ≤ a ∧ a ≤ 158) ∨ (200 ≤ a ∧ a ≤ 204)
section
variable {k : cx} {S T : hs} {m : Nat → Int32} {l : Lz}
theorem nScr {a : Nat} (h : a ≠ 80 ∧ (a < 138 ∨ (158 < a ∧ (a < 200 ∨ 204 < a)))) : ¬ Scr a := fun q => by unfold Scr at q; omega
theorem IvT.fr (h : IvT S m l) (f : Fr Scr S T) : IvT T m l :=
  ⟨h.1.fr f (fun a h1 h2 => nScr (by omega)), h.2.1.fr f (nScr (by omega)), h.2.2.1.fr f (fun a h1 h2 => nScr (by omega)), h.2.2.2⟩
theorem LwC.cg {g g' : Nat → Nat → Int32} (h : LwC g l) (e1 : g' 74 5 = g 74 5) (e2 : ∀ i, i < 8 → g' 75 i = g 75 i) (e3 : ∀ i, i < 8 → g' 76 i = g 76 i) (e4 : ∀ i, i < 100 → g' 77 i = g 77 i) (e5 : ∀ i, i < 100 → g' 78 i = g 78 i) (e6 : ∀ i, i < 100 → g' 79 i = g 79 i) : LwC g' l := by
  obtain ⟨h1, h2, h3⟩ := h
  refine ⟨e1.trans h1, h2, fun k hk => ?_⟩
  obtain ⟨k1, k2, k3, k4⟩ := h3 k hk
  exact ⟨(e2 k (by omega)).trans k1, k2, fun T t1 t2 t3 t4 => k3 T (fun i hi => (t1 i hi).trans (e3 i hi)) (fun i hi => (t2 i hi).trans (e4 i hi)) (fun i hi => (t3 i hi).trans (e5 i hi)) (fun i hi => (t4 i hi).trans (e6 i hi)), k4⟩
theorem TB.cg2 {g g' : Nat → Nat → Int32} (h : TB g m) (v : VM m) (q : ∀ a i, 34 ≤ a → a < 74 → i < 9 → g' a i = g a i) : TB g' m := by
  have hc := v.c.2
  have hs := v.s.2
  have hw := v.w.2
  obtain ⟨h1, h2, h3, h4, h5, h6, h7⟩ := h
  refine ⟨?_, ?_, ?_, ?_, fun i hi => ?_, fun j hj => ?_, fun i hi => ?_⟩
  · rw [q 34 5 (by omega) (by omega) (by omega)]; exact h1
  · rw [q 34 6 (by omega) (by omega) (by omega)]; exact h2
  · rw [q 34 7 (by omega) (by omega) (by omega)]; exact h3
  · rw [q 34 8 (by omega) (by omega) (by omega)]; exact h4
  · rw [q (36 + i) 0 (by omega) (by omega) (by omega), q (36 + i) 1 (by omega) (by omega) (by omega)]; exact h5 i hi
  · rw [q (49 + j) 0 (by omega) (by omega) (by omega), q (49 + j) 1 (by omega) (by omega) (by omega), q (49 + j) 2 (by omega) (by omega) (by omega), q (49 + j) 3 (by omega) (by omega) (by omega), q (49 + j) 4 (by omega) (by omega) (by omega), q (49 + j) 5 (by omega) (by omega) (by omega), q (49 + j) 6 (by omega) (by omega) (by omega), q (49 + j) 7 (by omega) (by omega) (by omega)]; exact h6 j hj
  · rw [q (70 + i) 0 (by omega) (by omega) (by omega), q (70 + i) 1 (by omega) (by omega) (by omega), q (70 + i) 2 (by omega) (by omega) (by omega)]; exact h7 i hi
theorem IvK.cg (h : IvK S) (e : ∀ a i, a = 33 ∧ i = 7 ∨ a = 191 ∧ i = 2 ∨ 81 ≤ a ∧ a < 127 ∨ a = 193 → gI T a i = gI S a i) : IvK T := by
  obtain ⟨h1, h2⟩ := h
  unfold IvK
  rw [e 33 7 (by omega), e 191 2 (by omega)]
  refine ⟨h1, ?_⟩
  rcases h2 with h2 | ⟨h2, m, l, v, b, lc, mm, lm⟩
  · exact Or.inl h2
  · exact Or.inr ⟨h2, m, l, v, b.cg2 v (fun a i h1 h2 h3 => e (a + 47) i (by omega)), lc.cg (e _ _ (by omega)) (fun i _ => e _ _ (by omega)) (fun i _ => e _ _ (by omega)) (fun i _ => e _ _ (by omega)) (fun i _ => e _ _ (by omega)) (fun i _ => e _ _ (by omega)), fun i hi => (e 193 i (by omega)).trans (mm i hi), lm⟩
theorem IvR.cg (h : IvR S) (e : ∀ a i, a = 33 ∧ i = 6 ∨ a = 191 ∧ i = 23 ∨ 171 ≤ a ∧ a < 191 ∨ a = 205 → gI T a i = gI S a i) : IvR T := by
  obtain ⟨r, h1, h2, h3, h4⟩ := h
  exact ⟨r, h1, (e _ _ (by omega)).trans h2, (e _ _ (by omega)).trans h3, fun i hi k hk => by rw [e (171 + i) k (by omega), e 205 _ (by omega)]; exact h4 i hi k hk⟩
theorem IvP.cg (h : IvP S) (e : ∀ a i, a = 128 ∧ i = 2 ∨ a = 191 ∧ i = 5 ∨ a = 194 ∨ a = 135 → gI T a i = gI S a i) : IvP T := by
  obtain ⟨n, h1, h2, h3, h4⟩ := h
  exact ⟨n, h1, (e _ _ (by omega)).trans h2, (e _ _ (by omega)).trans h3, fun i hi => by rw [e 194 i (by omega), e 135 i (by omega)]; exact h4 i hi⟩
theorem IvH.cg (h : IvH S) (e : ∀ a i, a = 160 ∨ a = 161 ∨ a = 206 ∨ a = 207 ∨ a = 208 → gI T a i = gI S a i) (f : ∀ a i, 163 ≤ a → a < 167 → gJ T a i = gJ S a i) : IvH T := by
  intro s hs
  rw [e 160 s (by omega), e 161 s (by omega), e 207 s (by omega), e 208 s (by omega)]
  obtain ⟨h1, h2, h3, h4, h5⟩ := h s hs
  exact ⟨h1, h2, h3, h4, fun i hi => by rw [f _ _ (by omega) (by omega), e 206 _ (by omega)]; exact h5 i hi⟩
theorem IvG.cg (h : IvG S) (e : ∀ a i, a = 167 ∨ a = 168 ∨ a = 169 ∨ a = 209 ∨ a = 210 ∨ a = 211 → gI T a i = gI S a i) : IvG T := by
  intro s hs
  rw [e 167 s (by omega), e 168 s (by omega), e 169 s (by omega), e 209 s (by omega), e 210 s (by omega), e 211 s (by omega)]
  exact h s hs
theorem IvA.cg (h : IvA k S) (e : ∀ a i, a = 191 ∧ i = 31 ∨ a = 212 ∨ 213 ≤ a → gI T a i = gI S a i) : IvA k T := by
  rcases h with ⟨h1, h2⟩ | ⟨j, n, h1, h2, h3, h4, h5, h6⟩
  · exact Or.inl ⟨h1, (e _ _ (by omega)).trans h2⟩
  · exact Or.inr ⟨j, n, h1, h2, h3, (e _ _ (by omega)).trans h4, (e _ _ (by omega)).trans h5, fun i hi => by rw [e (214 + 2 * j) i (by omega), e 212 i (by omega)]; exact h6 i hi⟩
theorem IvS.cg (h : IvS S) (e : ∀ a i, 16 ≤ a → a < 32 → gI T a i = gI S a i) : IvS T := fun i hi j hj => by rw [e (16 + i) j (by omega) (by omega)]; exact h i hi j hj
theorem Inv.fr (h : Inv k S) (f : Fr Scr S T) : Inv k T := by
  obtain ⟨⟨m, l, ht⟩, hk, hr, hp, hh, hg, ha, hs, hi⟩ := h
  have e : ∀ a i, (a ≠ 80 ∧ (a < 138 ∨ (158 < a ∧ (a < 200 ∨ 204 < a)))) → gI T a i = gI S a i := fun a i q => (f a (nScr q)).1 i
  exact ⟨⟨m, l, ht.fr f⟩, hk.cg (fun a i q => e a i (by omega)), hr.cg (fun a i q => e a i (by omega)), hp.cg (fun a i q => e a i (by omega)), hh.cg (fun a i q => e a i (by omega)) (fun a i q1 q2 => (f a (nScr (by omega))).2 i), hg.cg (fun a i q => e a i (by omega)), ha.cg (fun a i q => e a i (by omega)), hs.cg (fun a i q1 q2 => e a i (by omega)), (e 191 3 (by omega)).trans hi⟩
/-- a question's or a call's answers, the class's and then the model's -/
def Q2 (k : cx) (S : hs) (oX : Option (Int32 × hs)) (oM : hs → Option (Int32 × hs)) : Prop := ∃ (r : Int32) (S1 S2 : hs), oX = some (r, S1) ∧ oM S1 = some (r, S2) ∧ (∀ j, gI S1 32 j = gI S 32 j) ∧ Inv k S2
theorem Q2.same {oX : Option (Int32 × hs)} {oM : hs → Option (Int32 × hs)} {r : Int32} (h : Inv k S) (h1 : oX = some (r, S)) (h2 : oM S = some (r, S)) : Q2 k S oX oM := ⟨r, S, S, h1, h2, fun _ => rfl, h⟩
theorem Q2.fr {oX : Option (Int32 × hs)} {oM : hs → Option (Int32 × hs)} {r : Int32} {S1 S2 : hs} (h : Inv k S) (h1 : oX = some (r, S1)) (h2 : oM S1 = some (r, S2)) (f1 : Fr Scr S S1) (f2 : Fr Scr S1 S2) : Q2 k S oX oM := ⟨r, S1, S2, h1, h2, fun j => (f1 32 (nScr (by omega))).1 j, h.fr (f1.trans f2)⟩
end
