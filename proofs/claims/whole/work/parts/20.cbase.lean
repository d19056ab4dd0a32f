/-! layer 2: small methods of the class and of the JDK -/
def mb (p : Prop) [Decidable p] : Int := if p then 1 else 0
theorem mb_t {p : Prop} [Decidable p] (h : p) : mb p = 1 := if_pos h
theorem mb_f {p : Prop} [Decidable p] (h : ¬ p) : mb p = 0 := if_neg h
/-- 13 WhoSigns.within -/
theorem c_within {d : Nat} {I : mj_I} {S : mj_S} {Q : mj_Q} (v a b : Int) (hT : a ≤ v ∧ v ≤ b → Q (some (.inl 1)) I S) (hF : ¬ (a ≤ v ∧ v ≤ b) → Q (some (.inl 0)) I S) : mj_C d 13 [.inl v, .inl a, .inl b] I S Q := by
  refine mj_C_of 20 ?_
  (repeat' (first | assumption | exact Or.inl rfl | exact Or.inr rfl | (intro hz; exact absurd hz (by decide)) | refine And.intro ?_ ?_ | intro _))
  all_goals first | exact hT (by omega) | exact hF (by omega)
/-- 28 isDay, 46 isKind, 169 isSheet, 178 isSlot -/
theorem c_isDay {d : Nat} {I : mj_I} {S : mj_S} {Q : mj_Q} (v : Int) (hd : 0 < d) (hT : 0 ≤ v ∧ v ≤ 999 → Q (some (.inl 1)) I S) (hF : ¬ (0 ≤ v ∧ v ≤ 999) → Q (some (.inl 0)) I S) : mj_C d 28 [.inl v] I S Q := by
  refine mj_C_of 20 ?_
  refine ⟨hd, c_within _ _ _ (fun h => ⟨Or.inr rfl, hT h⟩) (fun h => ⟨Or.inl rfl, hF h⟩)⟩
theorem c_isKind {d : Nat} {I : mj_I} {S : mj_S} {Q : mj_Q} (v : Int) (hd : 0 < d) (hT : 0 ≤ v ∧ v ≤ 5 → Q (some (.inl 1)) I S) (hF : ¬ (0 ≤ v ∧ v ≤ 5) → Q (some (.inl 0)) I S) : mj_C d 46 [.inl v] I S Q := by
  refine mj_C_of 20 ?_
  refine ⟨hd, c_within _ _ _ (fun h => ⟨Or.inr rfl, hT h⟩) (fun h => ⟨Or.inl rfl, hF h⟩)⟩
theorem c_isSheet {d : Nat} {I : mj_I} {S : mj_S} {Q : mj_Q} (v : Int) (hd : 0 < d) (hT : 0 ≤ v ∧ v ≤ 3 → Q (some (.inl 1)) I S) (hF : ¬ (0 ≤ v ∧ v ≤ 3) → Q (some (.inl 0)) I S) : mj_C d 169 [.inl v] I S Q := by
  refine mj_C_of 20 ?_
  refine ⟨hd, c_within _ _ _ (fun h => ⟨Or.inr rfl, hT h⟩) (fun h => ⟨Or.inl rfl, hF h⟩)⟩
theorem c_isSlot {d : Nat} {I : mj_I} {S : mj_S} {Q : mj_Q} (v : Int) (hd : 0 < d) (hT : 0 ≤ v ∧ v ≤ 4 → Q (some (.inl 1)) I S) (hF : ¬ (0 ≤ v ∧ v ≤ 4) → Q (some (.inl 0)) I S) : mj_C d 178 [.inl v] I S Q := by
  refine mj_C_of 20 ?_
  refine ⟨hd, c_within _ _ _ (fun h => ⟨Or.inr rfl, hT h⟩) (fun h => ⟨Or.inl rfl, hF h⟩)⟩
/-- 18 oneIf -/
theorem c_oneIf {d : Nat} {I : mj_I} {S : mj_S} {Q : mj_Q} (x : Int) (h0 : x = 0 → Q (some (.inl 0)) I S) (h1 : x ≠ 0 → Q (some (.inl 1)) I S) : mj_C d 18 [.inl x] I S Q := by
  refine mj_C_of 20 ?_
  refine ⟨fun h => h0 h, fun h => h1 h⟩
/-- 50 weightOf -/
def w_wt (k n : Int) : Int := if k = 1 then 1 + n else if k = 2 then 4 else if k = 3 then 2 * (1 + n) else if k = 4 then 4 + n else if k = 5 then n * n else 1
theorem c_weightOf {d : Nat} {I : mj_I} {S : mj_S} {Q : mj_Q} (k n : Int) (hk : 0 ≤ k ∧ k ≤ 5) (hn : 0 ≤ n ∧ n ≤ 9) (h : ∀ r, r = w_wt k n → Q (some (.inl r)) I S) : mj_C d 50 [.inl k, .inl n] I S Q := by
  have hnn : 0 ≤ n * n ∧ n * n ≤ 81 := by
    have : n = 0 ∨ n = 1 ∨ n = 2 ∨ n = 3 ∨ n = 4 ∨ n = 5 ∨ n = 6 ∨ n = 7 ∨ n = 8 ∨ n = 9 := by omega
    rcases this with q | q | q | q | q | q | q | q | q | q <;> subst q <;> decide
  refine mj_C_of 30 ?_
  (repeat' (first | assumption | exact Or.inl rfl | exact Or.inr rfl | (intro hz; exact absurd hz (by decide)) | refine And.intro ?_ ?_ | intro _))
  all_goals (refine h _ ?_; unfold w_wt; simp_all; try (unfold mj_wr; omega))
/-- 60 isUnder -/
def w_un (k o : Int) : Prop := o = 0 ∨ k = o ∨ (o = 1 ∧ (k = 3 ∨ k = 4))
/-- 17 Person.isAway -/
theorem c_isAway {d : Nat} {I : mj_I} {S : mj_S} {Q : mj_Q} (p : Nat) (day : Int) (hp : mj_tg S p = 3) (hT : I p 4 ≤ day ∧ day ≤ I p 5 → Q (some (.inl 1)) I S) (hF : ¬ (I p 4 ≤ day ∧ day ≤ I p 5) → Q (some (.inl 0)) I S) : mj_C d 17 [.inr p, .inl day] I S Q := by
  refine mj_C_of 30 ?_
  (repeat' (first | assumption | exact Or.inl rfl | exact Or.inr rfl | (intro hz; exact absurd hz (by decide)) | refine And.intro ?_ ?_ | intro _))
  all_goals first | exact hT (by omega) | exact hF (by omega)
/-- 57 firstStep, 56 lastStep -/
theorem c_firstStep {d : Nat} {I : mj_I} {S : mj_S} {Q : mj_Q} (r : Nat) (hr : mj_tg S r = 5) (h : ∀ v, v = min (I r 1) (I r 2) → Q (some (.inl v)) I S) : mj_C d 57 [.inr r] I S Q := by
  refine mj_C_of 30 ?_
  (repeat' (first | assumption | exact Or.inl rfl | exact Or.inr rfl | (intro hz; exact absurd hz (by decide)) | refine And.intro ?_ ?_ | intro _))
  all_goals (refine h _ ?_; omega)
theorem c_lastStep {d : Nat} {I : mj_I} {S : mj_S} {Q : mj_Q} (r : Nat) (hr : mj_tg S r = 5) (h : ∀ v, v = max (I r 1) (I r 2) → Q (some (.inl v)) I S) : mj_C d 56 [.inr r] I S Q := by
  refine mj_C_of 30 ?_
  (repeat' (first | assumption | exact Or.inl rfl | exact Or.inr rfl | (intro hz; exact absurd hz (by decide)) | refine And.intro ?_ ?_ | intro _))
  all_goals (refine h _ ?_; omega)
/-- 14 Person.begin -/
def w_begP (I : mj_I) (p : Nat) (o r k : Int) : mj_I := mj_up (mj_up (mj_up (mj_up (mj_up (mj_up (mj_up (mj_up I p 0 o) p 1 r) p 2 k) p 3 0) p 4 0) p 5 (-1)) p 6 (-1)) p 7 0
theorem c_beginP {d : Nat} {I : mj_I} {S : mj_S} {Q : mj_Q} (p : Nat) (o r k : Int) (hp : mj_tg S p = 3) (h : Q none (w_begP I p o r k) S) : mj_C d 14 [.inr p, .inl o, .inl r, .inl k] I S Q := by
  refine mj_C_of 40 ?_
  (repeat' (first | assumption | exact Or.inl rfl | exact Or.inr rfl | (intro hz; exact absurd hz (by decide)) | refine And.intro ?_ ?_ | intro _))
