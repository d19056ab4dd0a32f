/-! memory: rows as functions, frames -/
theorem mj_up_s {I : mj_I} {a j : Nat} {x : Int} : mj_up I a j x a j = x := if_pos ⟨rfl, rfl⟩
theorem mj_up_n {I : mj_I} {a j b k : Nat} {x : Int} (h : ¬ (b = a ∧ k = j)) : mj_up I a j x b k = I b k := if_neg h
def ru (N : Int → Int) (j x : Int) : Int → Int := fun k => if k = j then x else N k
theorem ru_s {N : Int → Int} {j x : Int} : ru N j x j = x := if_pos rfl
theorem ru_n {N : Int → Int} {j x k : Int} (h : k ≠ j) : ru N j x k = N k := if_neg h
theorem rd_up {I : mj_I} {a : Nat} {j x : Int} (h : 0 ≤ j) (h2 : j < 1610) : rd (up I a j x) a = ru (rd I a) j x := by
  funext k
  unfold rd up mj_up ru
  by_cases e : k = j
  · subst e
    rw [if_pos ⟨h, h2⟩, if_pos ⟨rfl, rfl⟩, if_pos rfl]
  · rw [if_neg e]
    by_cases e2 : 0 ≤ k ∧ k < 1610
    · rw [if_pos e2, if_neg (by omega)]
      exact (if_pos e2).symm
    · rw [if_neg e2]
      exact (if_neg e2).symm
theorem rd_uo {I : mj_I} {a b : Nat} {j x : Int} (h : ¬ b = a) : rd (up I a j x) b = rd I b := by
  funext k
  unfold rd up mj_up
  by_cases e2 : 0 ≤ k ∧ k < 1610
  · rw [if_pos e2, if_pos e2, if_neg (fun q => h q.1)]
  · rw [if_neg e2, if_neg e2]
theorem rd_mu {I : mj_I} {a b k : Nat} {x : Int} (h : ¬ b = a) : rd (mj_up I a k x) b = rd I b := by
  funext k
  unfold rd mj_up
  by_cases e2 : 0 ≤ k ∧ k < 1610
  · rw [if_pos e2, if_pos e2, if_neg (fun q => h q.1)]
  · rw [if_neg e2, if_neg e2]
theorem up_f {I : mj_I} {a b k : Nat} {j x : Int} (h : ¬ b = a) : up I a j x b k = I b k := if_neg (fun q => h q.1)
theorem mu_f {I : mj_I} {a b j k : Nat} {x : Int} (h : ¬ (b = a ∧ k = j)) : mj_up I a j x b k = I b k := if_neg h
/-- only cells of X may have changed -/
def fr (X : Nat → Prop) (I I' : mj_I) : Prop := ∀ a, ¬ X a → I' a = I a
theorem fr.refl {X : Nat → Prop} {I : mj_I} : fr X I I := fun _ _ => rfl
theorem fr.tr {X : Nat → Prop} {I J K : mj_I} (h : fr X I J) (k : fr X J K) : fr X I K := fun a ha => (k a ha).trans (h a ha)
theorem fr.mo {X Y : Nat → Prop} {I J : mj_I} (h : fr X I J) (k : ∀ a, X a → Y a) : fr Y I J := fun a ha => h a (fun q => ha (k a q))
theorem fr.f {X : Nat → Prop} {I J : mj_I} (h : fr X I J) {a : Nat} (ha : ¬ X a) (k : Nat) : J a k = I a k := by rw [h a ha]
theorem fr.r {X : Nat → Prop} {I J : mj_I} (h : fr X I J) {a : Nat} (ha : ¬ X a) : rd J a = rd I a := by
  funext k
  unfold rd
  rw [h a ha]
theorem fr.up {X : Nat → Prop} {I J : mj_I} (h : fr X I J) {a : Nat} (ha : X a) (j x : Int) : fr X I (up J a j x) := fun b hb => by
  rw [← h b hb]
  funext k
  exact if_neg (fun (q : b = a ∧ _) => hb (q.1 ▸ ha))
theorem fr.mu {X : Nat → Prop} {I J : mj_I} (h : fr X I J) {a : Nat} (ha : X a) (j : Nat) (x : Int) : fr X I (mj_up J a j x) := fun b hb => by
  rw [← h b hb]
  funext k
  exact if_neg (fun (q : b = a ∧ _) => hb (q.1 ▸ ha))
def mB (b : Nat) : Prop := b = 21 ∨ b = 61
theorem xok_w {S : mj_S} (hS : mk_Sh S) : xok S (1, 0, 20, 0) := x_chq_ok hS (by decide +kernel)
theorem xok_m {S : mj_S} (hS : mk_Sh S) : xok S (13, 0, 150, 0) := x_chq_ok hS (by decide +kernel)
theorem xok_fi {S : mj_S} (hS : mk_Sh S) : xok S (7, 0, 101, 0) := x_chq_ok hS (by decide +kernel)
theorem xok_tu {S : mj_S} (hS : mk_Sh S) : xok S (8, 0, 112, 0) := x_chq_ok hS (by decide +kernel)
theorem xok_rea {S : mj_S} (hS : mk_Sh S) : xok S (9, 0, 115, 0) := x_chq_ok hS (by decide +kernel)
/-! within, hasPerson .. -/
theorem c_in {d : Nat} {I : mj_I} {S : mj_S} {Q : mj_Q} (v a b : Int) (hT : a ≤ v ∧ v ≤ b → Q (some (.inl 1)) I S) (hF : ¬ (a ≤ v ∧ v ≤ b) → Q (some (.inl 0)) I S) : mj_C d 196 [.inl v, .inl a, .inl b] I S Q := by
  refine mj_C_of 20 ?_
  (repeat' (first | assumption | exact Or.inl rfl | exact Or.inr rfl | (intro hz; exact absurd hz (by decide)) | refine And.intro ?_ ?_ | intro _))
  all_goals first | exact hT (by omega) | exact hF (by omega)
theorem c_hasPerson {d : Nat} {I : mj_I} {S : mj_S} {Q : mj_Q} {b : Nat} (hS : mk_Sh S) (hb : mB b) (v : Int) (hd : 0 < d) (hn : 0 ≤ I b 1 ∧ I b 1 ≤ 7) (hT : 0 ≤ v ∧ v < I b 1 → Q (some (.inl 1)) I S) (hF : ¬ (0 ≤ v ∧ v < I b 1) → Q (some (.inl 0)) I S) : mj_C d 16 [.inr b, .inl v] I S Q := by
  refine x_C false [.inr (2, b, b, 0), .inl v] [] 20 hS ⟨xok_b hS hb, trivial, trivial⟩ ?_
  (repeat' (first | refine c_within _ _ _ ?_ ?_ | with_reducible assumption | with_reducible exact rfl | with_reducible exact trivial | (with_reducible (show (_ : Int) ≤ _); omega) | (with_reducible (show (_ : Int) < _); omega) | (with_reducible (show (_ : Nat) < _); omega) | (with_reducible (show (_ : Nat) ≤ _); omega) | with_reducible exact Or.inl rfl | with_reducible exact Or.inr rfl | with_reducible exact Or.inl trivial | with_reducible exact Or.inr trivial | (intro hz; exact absurd hz (by decide)) | (intro hz; exfalso; omega) | refine And.intro ?_ ?_ | intro _))
  all_goals first | exact hT (by omega) | exact hF (by omega)
theorem c_hasStep {d : Nat} {I : mj_I} {S : mj_S} {Q : mj_Q} {b : Nat} (hS : mk_Sh S) (hb : mB b) (v : Int) (hd : 0 < d) (hn : 0 ≤ I b 3 ∧ I b 3 ≤ 6) (hT : 0 ≤ v ∧ v < I b 3 → Q (some (.inl 1)) I S) (hF : ¬ (0 ≤ v ∧ v < I b 3) → Q (some (.inl 0)) I S) : mj_C d 33 [.inr b, .inl v] I S Q := by
  refine x_C false [.inr (2, b, b, 0), .inl v] [] 20 hS ⟨xok_b hS hb, trivial, trivial⟩ ?_
  (repeat' (first | refine c_within _ _ _ ?_ ?_ | with_reducible assumption | with_reducible exact rfl | with_reducible exact trivial | (with_reducible (show (_ : Int) ≤ _); omega) | (with_reducible (show (_ : Int) < _); omega) | (with_reducible (show (_ : Nat) < _); omega) | (with_reducible (show (_ : Nat) ≤ _); omega) | with_reducible exact Or.inl rfl | with_reducible exact Or.inr rfl | with_reducible exact Or.inl trivial | with_reducible exact Or.inr trivial | (intro hz; exact absurd hz (by decide)) | (intro hz; exfalso; omega) | refine And.intro ?_ ?_ | intro _))
  all_goals first | exact hT (by omega) | exact hF (by omega)
theorem c_hasRule {d : Nat} {I : mj_I} {S : mj_S} {Q : mj_Q} {b : Nat} (hS : mk_Sh S) (hb : mB b) (v : Int) (hd : 0 < d) (hn : 0 ≤ I b 5 ∧ I b 5 ≤ 12) (hT : 0 ≤ v ∧ v < I b 5 → Q (some (.inl 1)) I S) (hF : ¬ (0 ≤ v ∧ v < I b 5) → Q (some (.inl 0)) I S) : mj_C d 49 [.inr b, .inl v] I S Q := by
  refine x_C false [.inr (2, b, b, 0), .inl v] [] 20 hS ⟨xok_b hS hb, trivial, trivial⟩ ?_
  (repeat' (first | refine c_within _ _ _ ?_ ?_ | with_reducible assumption | with_reducible exact rfl | with_reducible exact trivial | (with_reducible (show (_ : Int) ≤ _); omega) | (with_reducible (show (_ : Int) < _); omega) | (with_reducible (show (_ : Nat) < _); omega) | (with_reducible (show (_ : Nat) ≤ _); omega) | with_reducible exact Or.inl rfl | with_reducible exact Or.inr rfl | with_reducible exact Or.inl trivial | with_reducible exact Or.inr trivial | (intro hz; exact absurd hz (by decide)) | (intro hz; exfalso; omega) | refine And.intro ?_ ?_ | intro _))
  all_goals first | exact hT (by omega) | exact hF (by omega)
/-- 198 isPerson, 213 isStep, 223 isRule, 209 isDay -/
theorem m_isPerson {d : Nat} {I : mj_I} {S : mj_S} {Q : mj_Q} (hS : mk_Sh S) (v : Int) (hd : 0 < d) (hn : 0 ≤ rd I 151 2 ∧ rd I 151 2 ≤ 7) (hT : 0 ≤ v ∧ v < rd I 151 2 → Q (some (.inl 1)) I S) (hF : ¬ (0 ≤ v ∧ v < rd I 151 2) → Q (some (.inl 0)) I S) : mj_C d 198 [.inr 150, .inl v] I S Q := by
  refine x_C false [.inr (13, 0, 150, 0), .inl v] [] 20 hS ⟨xok_m hS, trivial, trivial⟩ ?_
  (repeat' (first | refine c_in _ _ _ ?_ ?_ | with_reducible assumption | with_reducible exact rfl | with_reducible exact trivial | (with_reducible (show (_ : Int) ≤ _); omega) | (with_reducible (show (_ : Int) < _); omega) | (with_reducible (show (_ : Nat) < _); omega) | (with_reducible (show (_ : Nat) ≤ _); omega) | with_reducible exact Or.inl rfl | with_reducible exact Or.inr rfl | with_reducible exact Or.inl trivial | with_reducible exact Or.inr trivial | (intro hz; exact absurd hz (by decide)) | (intro hz; exfalso; omega) | refine And.intro ?_ ?_ | intro _))
  all_goals first | exact hT (by omega) | exact hF (by omega)
theorem m_isStep {d : Nat} {I : mj_I} {S : mj_S} {Q : mj_Q} (hS : mk_Sh S) (v : Int) (hd : 0 < d) (hn : 0 ≤ rd I 151 3 ∧ rd I 151 3 ≤ 6) (hT : 0 ≤ v ∧ v < rd I 151 3 → Q (some (.inl 1)) I S) (hF : ¬ (0 ≤ v ∧ v < rd I 151 3) → Q (some (.inl 0)) I S) : mj_C d 213 [.inr 150, .inl v] I S Q := by
  refine x_C false [.inr (13, 0, 150, 0), .inl v] [] 20 hS ⟨xok_m hS, trivial, trivial⟩ ?_
  (repeat' (first | refine c_in _ _ _ ?_ ?_ | with_reducible assumption | with_reducible exact rfl | with_reducible exact trivial | (with_reducible (show (_ : Int) ≤ _); omega) | (with_reducible (show (_ : Int) < _); omega) | (with_reducible (show (_ : Nat) < _); omega) | (with_reducible (show (_ : Nat) ≤ _); omega) | with_reducible exact Or.inl rfl | with_reducible exact Or.inr rfl | with_reducible exact Or.inl trivial | with_reducible exact Or.inr trivial | (intro hz; exact absurd hz (by decide)) | (intro hz; exfalso; omega) | refine And.intro ?_ ?_ | intro _))
  all_goals first | exact hT (by omega) | exact hF (by omega)
theorem m_isRule {d : Nat} {I : mj_I} {S : mj_S} {Q : mj_Q} (hS : mk_Sh S) (v : Int) (hd : 0 < d) (hn : 0 ≤ rd I 151 4 ∧ rd I 151 4 ≤ 12) (hT : 0 ≤ v ∧ v < rd I 151 4 → Q (some (.inl 1)) I S) (hF : ¬ (0 ≤ v ∧ v < rd I 151 4) → Q (some (.inl 0)) I S) : mj_C d 223 [.inr 150, .inl v] I S Q := by
  refine x_C false [.inr (13, 0, 150, 0), .inl v] [] 20 hS ⟨xok_m hS, trivial, trivial⟩ ?_
  (repeat' (first | refine c_in _ _ _ ?_ ?_ | with_reducible assumption | with_reducible exact rfl | with_reducible exact trivial | (with_reducible (show (_ : Int) ≤ _); omega) | (with_reducible (show (_ : Int) < _); omega) | (with_reducible (show (_ : Nat) < _); omega) | (with_reducible (show (_ : Nat) ≤ _); omega) | with_reducible exact Or.inl rfl | with_reducible exact Or.inr rfl | with_reducible exact Or.inl trivial | with_reducible exact Or.inr trivial | (intro hz; exact absurd hz (by decide)) | (intro hz; exfalso; omega) | refine And.intro ?_ ?_ | intro _))
  all_goals first | exact hT (by omega) | exact hF (by omega)
theorem m_isDay {d : Nat} {I : mj_I} {S : mj_S} {Q : mj_Q} (v : Int) (hd : 0 < d) (hT : 0 ≤ v ∧ v ≤ 999 → Q (some (.inl 1)) I S) (hF : ¬ (0 ≤ v ∧ v ≤ 999) → Q (some (.inl 0)) I S) : mj_C d 209 [.inl v] I S Q := by
  refine mj_C_of 20 ?_
  refine ⟨hd, c_in _ _ _ (fun h => ⟨Or.inr rfl, hT h⟩) (fun h => ⟨Or.inl rfl, hF h⟩)⟩
theorem m_of8 {d : Nat} {I : mj_I} {S : mj_S} {Q : mj_Q} (hS : mk_Sh S) (p k : Int) (hp : 0 ≤ p ∧ p < 7) (hk : 0 ≤ k ∧ k < 8) (h : Q (some (.inl (rd I 151 (8 + 8 * p + k)))) I S) : mj_C d 200 [.inr 150, .inl p, .inl k] I S Q := by
  refine x_C false [.inr (13, 0, 150, 0), .inl p, .inl k] [] 20 hS ⟨xok_m hS, trivial, trivial, trivial⟩ ?_
  (repeat' (first | with_reducible assumption | with_reducible exact rfl | with_reducible exact trivial | (with_reducible (show (_ : Int) ≤ _); omega) | (with_reducible (show (_ : Int) < _); omega) | (with_reducible (show (_ : Nat) < _); omega) | (with_reducible (show (_ : Nat) ≤ _); omega) | with_reducible exact Or.inl rfl | with_reducible exact Or.inr rfl | with_reducible exact Or.inl trivial | with_reducible exact Or.inr trivial | (intro hz; exact absurd hz (by decide)) | (intro hz; exfalso; omega) | refine And.intro ?_ ?_ | intro _))
  exact h
theorem m_of4 {d : Nat} {I : mj_I} {S : mj_S} {Q : mj_Q} (hS : mk_Sh S) (p k : Int) (hp : 0 ≤ p ∧ p < 6) (hk : 0 ≤ k ∧ k < 4) (h : Q (some (.inl (rd I 151 (64 + 4 * p + k)))) I S) : mj_C d 214 [.inr 150, .inl p, .inl k] I S Q := by
  refine x_C false [.inr (13, 0, 150, 0), .inl p, .inl k] [] 20 hS ⟨xok_m hS, trivial, trivial, trivial⟩ ?_
  (repeat' (first | with_reducible assumption | with_reducible exact rfl | with_reducible exact trivial | (with_reducible (show (_ : Int) ≤ _); omega) | (with_reducible (show (_ : Int) < _); omega) | (with_reducible (show (_ : Nat) < _); omega) | (with_reducible (show (_ : Nat) ≤ _); omega) | with_reducible exact Or.inl rfl | with_reducible exact Or.inr rfl | with_reducible exact Or.inl trivial | with_reducible exact Or.inr trivial | (intro hz; exact absurd hz (by decide)) | (intro hz; exfalso; omega) | refine And.intro ?_ ?_ | intro _))
  exact h
theorem m_rule4 {d : Nat} {I : mj_I} {S : mj_S} {Q : mj_Q} (hS : mk_Sh S) (p k : Int) (hp : 0 ≤ p ∧ p < 12) (hk : 0 ≤ k ∧ k < 4) (h : Q (some (.inl (rd I 151 (88 + 4 * p + k)))) I S) : mj_C d 224 [.inr 150, .inl p, .inl k] I S Q := by
  refine x_C false [.inr (13, 0, 150, 0), .inl p, .inl k] [] 20 hS ⟨xok_m hS, trivial, trivial, trivial⟩ ?_
  (repeat' (first | with_reducible assumption | with_reducible exact rfl | with_reducible exact trivial | (with_reducible (show (_ : Int) ≤ _); omega) | (with_reducible (show (_ : Int) < _); omega) | (with_reducible (show (_ : Nat) < _); omega) | (with_reducible (show (_ : Nat) ≤ _); omega) | with_reducible exact Or.inl rfl | with_reducible exact Or.inr rfl | with_reducible exact Or.inl trivial | with_reducible exact Or.inr trivial | (intro hz; exact absurd hz (by decide)) | (intro hz; exfalso; omega) | refine And.intro ?_ ?_ | intro _))
  exact h
theorem m_orNone {d : Nat} {I : mj_I} {S : mj_S} {Q : mj_Q} (v : Int) (h : Q (some (.inl (if v < 0 then -1000000005 else v))) I S) : mj_C d 201 [.inl v] I S Q := by
  refine mj_C_of 20 ?_
  (repeat' (first | assumption | exact Or.inl rfl | exact Or.inr rfl | (intro hz; exact absurd hz (by decide)) | refine And.intro ?_ ?_ | intro _))
  · rename_i q
    rw [if_neg (by omega)] at h
    exact h
  · rename_i q
    rw [if_pos (by omega)] at h
    exact h
theorem m_isAway {d : Nat} {I : mj_I} {S : mj_S} {Q : mj_Q} (hS : mk_Sh S) (p day : Int) (hd : 0 < d) (hp : 0 ≤ p ∧ p < 7) (hT : rd I 151 (8 + 8 * p + 4) ≤ day ∧ day ≤ rd I 151 (8 + 8 * p + 5) → Q (some (.inl 1)) I S) (hF : ¬ (rd I 151 (8 + 8 * p + 4) ≤ day ∧ day ≤ rd I 151 (8 + 8 * p + 5)) → Q (some (.inl 0)) I S) : mj_C d 199 [.inr 150, .inl p, .inl day] I S Q := by
  refine x_C false [.inr (13, 0, 150, 0), .inl p, .inl day] [] 20 hS ⟨xok_m hS, trivial, trivial, trivial⟩ ?_
  (repeat' (first | refine m_of8 hS _ _ ?_ ?_ ?_ | refine c_in _ _ _ ?_ ?_ | with_reducible assumption | with_reducible exact rfl | with_reducible exact trivial | (with_reducible (show (_ : Int) ≤ _); omega) | (with_reducible (show (_ : Int) < _); omega) | (with_reducible (show (_ : Nat) < _); omega) | (with_reducible (show (_ : Nat) ≤ _); omega) | with_reducible exact Or.inl rfl | with_reducible exact Or.inr rfl | with_reducible exact Or.inl trivial | with_reducible exact Or.inr trivial | (intro hz; exact absurd hz (by decide)) | (intro hz; exfalso; omega) | refine And.intro ?_ ?_ | intro _))
  all_goals first | exact hT (by omega) | exact hF (by omega)
