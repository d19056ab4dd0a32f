/-! layer 2: loops over rows -/
def mj_fl (I : mj_I) (a : Nat) (x : Int) (n : Nat) : mj_I := fun b j => if b = a ∧ j < n then x else I b j
theorem mj_fl_0 (I : mj_I) (a : Nat) (x : Int) : mj_fl I a x 0 = I := by funext b j; unfold mj_fl; rw [if_neg (by omega)]
theorem mj_fl_s (I : mj_I) (a : Nat) (x : Int) (n : Nat) : mj_up (mj_fl I a x n) a n x = mj_fl I a x (n + 1) := by
  funext b j
  unfold mj_up mj_fl
  by_cases h : b = a
  · subst h
    by_cases h2 : j = n
    · rw [if_pos ⟨rfl, h2⟩, if_pos ⟨rfl, by omega⟩]
    · rw [if_neg (fun q => h2 q.2)]
      by_cases h3 : j < n
      · rw [if_pos ⟨rfl, h3⟩, if_pos ⟨rfl, by omega⟩]
      · rw [if_neg (fun q => h3 q.2), if_neg (fun q => by omega)]
  · rw [if_neg (fun q => h q.1), if_neg (fun q => h q.1), if_neg (fun q => h q.1)]
theorem mj_wr_s {j : Int} (h1 : -2147483648 ≤ j) (h2 : j ≤ 2147483647) : mj_wr j = j := mj_wr_id ⟨h1, h2⟩
/-- 53 Arrays.fill -/
theorem c_fill {d : Nat} {I : mj_I} {S : mj_S} {Q : mj_Q} (a : Nat) (x : Int) (ht : mj_tg S a = 20) (hn : mj_ln S a ≤ 65536) (h : Q none (mj_fl I a x (mj_ln S a)) S) : mj_C d 53 [.inr a, .inl x] I S Q := by
  have loop : ∀ k j : Nat, j + k = mj_ln S a → mj_W d 53 5 [some (.inr a), some (.inl x), some (.inl j), some (.inl (mj_ln S a))] [] (mj_fl I a x j) S Q := by
    intro k
    induction k with
    | zero =>
      intro j hj
      refine mj_W_hd [5] 20 ?_
      refine ⟨fun _ => ?_, fun q => absurd (by omega) q⟩
      rw [show j = mj_ln S a by omega]
      exact h
    | succ k ih =>
      intro j hj
      refine mj_W_hd [5] 20 ?_
      refine ⟨fun q => absurd q (by omega), fun _ => ?_⟩
      refine ⟨⟨Or.inl ht, by omega, by omega⟩, ?_⟩
      have k1 := ih (j + 1) (by omega)
      rw [← mj_fl_s] at k1
      rw [show ((j + 1 : Nat) : Int) = mj_wr ((j : Int) + 1) by rw [mj_wr_s (by omega) (by omega)]; omega] at k1
      exact k1
  refine mj_C_vs [5] 20 ?_
  refine ⟨⟨by omega, by omega⟩, ?_⟩
  have k1 := loop (mj_ln S a) 0 (by omega)
  rw [mj_fl_0] at k1
  exact k1
