/-! ones -/
theorem m_ones {d : Nat} {I : mj_I} {S : mj_S} {Q : mj_Q} (hS : mk_Sh S) (x : Int) (h : Q (some (.inl (pc7 x))) I S) : mj_C d 262 [.inl x] I S Q := by
  have loop : ∀ m i : Nat, i + m = 7 → ∀ (sum ii : Int), ii = i → sum = pcn x i → xW d 262 4 [some (.inl x), some (.inl sum), some (.inl ii)] [] I S Q := by
    intro m
    induction m with
    | zero =>
      intro i hi sum ii h1 h2
      have e : i = 7 := by omega
      subst e
      refine x_hd false [4] 30 ?_
      (repeat' (first | with_reducible assumption | with_reducible exact rfl | with_reducible exact trivial | (with_reducible (show (_ : Int) ≤ _); omega) | (with_reducible (show (_ : Int) < _); omega) | (with_reducible (show (_ : Nat) < _); omega) | (with_reducible (show (_ : Nat) ≤ _); omega) | with_reducible exact Or.inl rfl | with_reducible exact Or.inr rfl | with_reducible exact Or.inl trivial | with_reducible exact Or.inr trivial | (intro hz; exact absurd hz (by decide)) | (intro hz; exfalso; omega) | refine And.intro ?_ ?_ | intro _))
      exact Qe h h2.symm
    | succ m ih =>
      intro i hi sum ii h1 h2
      have hpb := pcn_b x i
      have hb : mj_and (mj_shr x ii) 1 = if mt x i = true then 1 else 0 := by rw [h1]; exact mj_ask x (by omega)
      have hb2 : (0 ≤ mj_and (mj_shr x ii) 1 ∧ mj_and (mj_shr x ii) 1 ≤ 1) := by rw [hb]; split <;> omega
      refine x_hd false [4] 30 ?_
      (repeat' (first | with_reducible assumption | with_reducible exact rfl | with_reducible exact trivial | (with_reducible (show (_ : Int) ≤ _); omega) | (with_reducible (show (_ : Int) < _); omega) | (with_reducible (show (_ : Nat) < _); omega) | (with_reducible (show (_ : Nat) ≤ _); omega) | with_reducible exact Or.inl rfl | with_reducible exact Or.inr rfl | with_reducible exact Or.inl trivial | with_reducible exact Or.inr trivial | (intro hz; exact absurd hz (by decide)) | (intro hz; exfalso; omega) | refine And.intro ?_ ?_ | intro _))
      refine ih (i + 1) (by omega) _ _ (by omega) ?_
      rw [h2, hb]
      rfl
  refine x_C false [.inl x] [4] 30 hS ⟨trivial, trivial⟩ ?_
  (repeat' (first | with_reducible assumption | with_reducible exact rfl | with_reducible exact trivial | (with_reducible (show (_ : Int) ≤ _); omega) | (with_reducible (show (_ : Int) < _); omega) | (with_reducible (show (_ : Nat) < _); omega) | (with_reducible (show (_ : Nat) ≤ _); omega) | with_reducible exact Or.inl rfl | with_reducible exact Or.inr rfl | with_reducible exact Or.inl trivial | with_reducible exact Or.inr trivial | (intro hz; exact absurd hz (by decide)) | (intro hz; exfalso; omega) | refine And.intro ?_ ?_ | intro _))
  exact loop 7 0 (by omega) _ _ rfl rfl
