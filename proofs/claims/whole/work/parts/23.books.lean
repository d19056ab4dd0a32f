/-! layer 2: the calls on people, steps, days -/
/-- 16 hasPerson, 33 hasStep, 49 hasRule -/
theorem c_hasPerson {d : Nat} {I : mj_I} {S : mj_S} {Q : mj_Q} (b : Nat) (v : Int) (ht : mj_tg S b = 1) (hd : 0 < d) (hn : 0 ≤ I b 1 ∧ I b 1 ≤ 100) (hT : 0 ≤ v ∧ v < I b 1 → Q (some (.inl 1)) I S) (hF : ¬ (0 ≤ v ∧ v < I b 1) → Q (some (.inl 0)) I S) : mj_C d 16 [.inr b, .inl v] I S Q := by
  refine mj_C_of 20 ?_
  refine ⟨ht, hd, c_within _ _ _ (fun h => ⟨Or.inr rfl, hT ?_⟩) (fun h => ⟨Or.inl rfl, hF ?_⟩)⟩
  all_goals (rw [mj_wr_s (by omega) (by omega)] at h; omega)
theorem c_hasStep {d : Nat} {I : mj_I} {S : mj_S} {Q : mj_Q} (b : Nat) (v : Int) (ht : mj_tg S b = 1) (hd : 0 < d) (hn : 0 ≤ I b 3 ∧ I b 3 ≤ 100) (hT : 0 ≤ v ∧ v < I b 3 → Q (some (.inl 1)) I S) (hF : ¬ (0 ≤ v ∧ v < I b 3) → Q (some (.inl 0)) I S) : mj_C d 33 [.inr b, .inl v] I S Q := by
  refine mj_C_of 20 ?_
  refine ⟨ht, hd, c_within _ _ _ (fun h => ⟨Or.inr rfl, hT ?_⟩) (fun h => ⟨Or.inl rfl, hF ?_⟩)⟩
  all_goals (rw [mj_wr_s (by omega) (by omega)] at h; omega)
theorem c_hasRule {d : Nat} {I : mj_I} {S : mj_S} {Q : mj_Q} (b : Nat) (v : Int) (ht : mj_tg S b = 1) (hd : 0 < d) (hn : 0 ≤ I b 5 ∧ I b 5 ≤ 100) (hT : 0 ≤ v ∧ v < I b 5 → Q (some (.inl 1)) I S) (hF : ¬ (0 ≤ v ∧ v < I b 5) → Q (some (.inl 0)) I S) : mj_C d 49 [.inr b, .inl v] I S Q := by
  refine mj_C_of 20 ?_
  refine ⟨ht, hd, c_within _ _ _ (fun h => ⟨Or.inr rfl, hT ?_⟩) (fun h => ⟨Or.inl rfl, hF ?_⟩)⟩
  all_goals (rw [mj_wr_s (by omega) (by omega)] at h; omega)
/-- 196 in, 198 isPerson, 213 isStep, 223 isRule, 209 isDay -/
theorem c_in {d : Nat} {I : mj_I} {S : mj_S} {Q : mj_Q} (v a b : Int) (hT : a ≤ v ∧ v ≤ b → Q (some (.inl 1)) I S) (hF : ¬ (a ≤ v ∧ v ≤ b) → Q (some (.inl 0)) I S) : mj_C d 196 [.inl v, .inl a, .inl b] I S Q := by
  refine mj_C_of 20 ?_
  repeat' (first | assumption | exact Or.inl rfl | exact Or.inr rfl | (intro hz; exact absurd hz (by decide)) | refine And.intro ?_ ?_ | intro _)
  all_goals first | exact hT (by omega) | exact hF (by omega)
theorem c_isPerson {d : Nat} {I : mj_I} {S : mj_S} {Q : mj_Q} (v : Int) (hS : mk_Sh S) (hd : 0 < d) (hn : 0 ≤ I 151 2 ∧ I 151 2 ≤ 100) (hT : 0 ≤ v ∧ v < I 151 2 → Q (some (.inl 1)) I S) (hF : ¬ (0 ≤ v ∧ v < I 151 2) → Q (some (.inl 0)) I S) : mj_C d 198 [.inr 150, .inl v] I S Q := by
  refine mj_C_of 20 ?_
  refine ⟨mk_t150 hS, ?_⟩
  rw [mk_r150_0 hS]
  refine ⟨⟨Or.inl (mk_t151 hS), by decide, by rw [mk_l151 hS]; decide⟩, hd, c_in _ _ _ (fun h => ⟨Or.inr rfl, hT ?_⟩) (fun h => ⟨Or.inl rfl, hF ?_⟩)⟩
  all_goals (simp only [Int.reduceToNat] at h; rw [mj_wr_s (by omega) (by omega)] at h; omega)
theorem mj_up_s {I : mj_I} {a j : Nat} {x : Int} : mj_up I a j x a j = x := if_pos ⟨rfl, rfl⟩
theorem mj_up_n {I : mj_I} {a j b k : Nat} {x : Int} (h : ¬ (b = a ∧ k = j)) : mj_up I a j x b k = I b k := if_neg h
theorem mj_tn_add {a b : Int} (ha : 0 ≤ a) (hb : 0 ≤ b) : (a + b).toNat = a.toNat + b.toNat := by omega
theorem mj_tn_mul {a : Int} {b : Nat} (ha : 0 ≤ a) : (a * (b : Int)).toNat = a.toNat * b := by
  obtain ⟨n, rfl⟩ : ∃ n : Nat, a = n := ⟨a.toNat, by omega⟩
  rw [← Int.natCast_mul]
  rfl
