/-! Values and what they depend on. -/
section
variable {B : Nat → Nat} {n : Nat}
theorem vOk_of (hB : ∀ j, j < n → B j < 256) {i : Nat} (h : tkc B n i < (20000 : Int32)) : vOk (tkc B n i) := by
  rcases tk_val hB i with ⟨-, v2⟩ | ⟨v1, -⟩
  · rcases v2 with ⟨d1, d2, d3, d4, d5⟩ | ⟨d1, a, d2, d3⟩
    · have e1 : enq B n i = tkE B n (stq B n i) := by unfold enq; rw [if_pos d3]
      exact ⟨_, d5, Or.inl (nmV_b _ _ 0 (fun z h1 h2 => dg_run d3 d4 z h1 (by rw [← e1]; exact h2)) (Nat.pow_pos (by decide)) d2)⟩
    · exact ⟨10000 + a, by rw [d3]; exact (foW_y a d2).2.1, Or.inr ⟨by omega, by omega⟩⟩
  · exact absurd h v1
theorem vlF_c {f f' : Nat → Int32} (h : ∀ i, i < 6 → f i = f' i) (x : Int32) : vlF f x = vlF f' x := by
  unfold vlF
  by_cases q : (x - (10000 : Int32)) < 0
  · rw [if_pos q, if_pos q]
  · by_cases q2 : (6 : Int32) ≤ (x - (10000 : Int32))
    · rw [if_neg q, if_pos q2, if_neg q, if_pos q2]
    · rw [if_neg q, if_neg q2, if_neg q, if_neg q2]
      have := (le_ct q q2).1
      have e6 : (6 : Int32).toNatClampNeg = 6 := rfl
      exact h _ (by omega)
end
/-- v looks at the six facts only -/
def Dep6 (v : (Nat → Int32) → Bool) : Prop := ∀ f f' : Nat → Int32, (∀ i, i < 6 → f i = f' i) → v f = v f'
theorem Dep6.cmp (op x y : Int32) : Dep6 (fun f => cmV op (vlF f x) (vlF f y)) := fun f f' h => by
  show cmV op (vlF f x) (vlF f y) = cmV op (vlF f' x) (vlF f' y)
  rw [vlF_c h, vlF_c h]
theorem Dep6.neg {v : (Nat → Int32) → Bool} (h : Dep6 v) : Dep6 (fun f => !v f) := fun f f' e => by
  show (!v f) = !v f'
  rw [h f f' e]
theorem Dep6.and {v w : (Nat → Int32) → Bool} (h : Dep6 v) (h' : Dep6 w) : Dep6 (fun f => v f && w f) := fun f f' e => by
  show (v f && w f) = (v f' && w f')
  rw [h f f' e, h' f f' e]
theorem Dep6.or {v w : (Nat → Int32) → Bool} (h : Dep6 v) (h' : Dep6 w) : Dep6 (fun f => v f || w f) := fun f f' e => by
  show (v f || w f) = (v f' || w f')
  rw [h f f' e, h' f f' e]
