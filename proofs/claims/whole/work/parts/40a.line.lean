/-! queue: the line -/
def insL (w p : Int) : Nat → (Int → Int) → (Int → Int) → (Int → Int) × (Int → Int)
  | 0, O, T => (ru O 0 p, ru T 0 w)
  | k + 1, O, T => if w < T k then insL w p k (ru O ((k + 1 : Nat) : Int) (O k)) (ru T ((k + 1 : Nat) : Int) (T k)) else (ru O ((k + 1 : Nat) : Int) p, ru T ((k + 1 : Nat) : Int) w)
def lnN (N : Int → Int) : Nat → Nat × (Int → Int) × (Int → Int)
  | 0 => (0, z0, z0)
  | p + 1 => if awy N p (N 1) then lnN N p else ((lnN N p).1 + 1, insL (waitS N p) p (lnN N p).1 (lnN N p).2.1 (lnN N p).2.2)
theorem insL_p {P : Int → Prop} {w p : Int} (hp : P p) {n : Int} : ∀ (k : Nat) (O T : Int → Int), (k : Int) ≤ n → (∀ q, 0 ≤ q → q ≤ n → q ≠ k → P (O q)) → ∀ q, 0 ≤ q → q ≤ n → P ((insL w p k O T).1 q)
  | 0, O, T, hk, h, q, q0, q1 => by
    show P (ru O 0 p q)
    by_cases e : q = 0
    · rw [e, ru_s]; exact hp
    · rw [ru_n e]; exact h q q0 q1 e
  | k + 1, O, T, hk, h, q, q0, q1 => by
    by_cases e : w < T k
    · have e1 : insL w p (k + 1) O T = insL w p k (ru O ((k + 1 : Nat) : Int) (O k)) (ru T ((k + 1 : Nat) : Int) (T k)) := if_pos e
      rw [e1]
      refine insL_p hp k _ _ (by omega) (fun j j0 j1 hj => ?_) q q0 q1
      by_cases e2 : j = ((k + 1 : Nat) : Int)
      · rw [e2, ru_s]; exact h k (by omega) (by omega) (by omega)
      · rw [ru_n e2]; exact h j j0 j1 e2
    · have e1 : insL w p (k + 1) O T = (ru O ((k + 1 : Nat) : Int) p, ru T ((k + 1 : Nat) : Int) w) := if_neg e
      rw [e1]
      show P (ru O ((k + 1 : Nat) : Int) p q)
      by_cases e2 : q = ((k + 1 : Nat) : Int)
      · rw [e2, ru_s]; exact hp
      · rw [ru_n e2]; exact h q q0 q1 e2
theorem lnN_b {N : Int → Int} : ∀ p : Nat, (lnN N p).1 ≤ p ∧ ∀ q, 0 ≤ q → q < (lnN N p).1 → 0 ≤ (lnN N p).2.1 q ∧ (lnN N p).2.1 q < p
  | 0 => ⟨Nat.le_refl 0, fun q q0 q1 => by have : q < ((0 : Nat) : Int) := q1; omega⟩
  | p + 1 => by
    have ih := lnN_b (N := N) p
    unfold lnN
    split
    · exact ⟨by omega, fun q q0 q1 => by have := ih.2 q q0 q1; omega⟩
    · refine ⟨by show (lnN N p).1 + 1 ≤ p + 1; omega, fun q q0 q1 => ?_⟩
      have q1' : q < (((lnN N p).1 + 1 : Nat) : Int) := q1
      refine insL_p (P := fun v => 0 ≤ v ∧ v < ((p + 1 : Nat) : Int)) (by omega) (n := (lnN N p).1) (lnN N p).1 _ _ (by omega) (fun j j0 j1 hj => ?_) q q0 (by omega)
      have := ih.2 j j0 (by omega)
      omega
/-- 161 putInLine -/
theorem c_putInLine {d : Nat} {I : mj_I} {S : mj_S} {Q : mj_Q} (hS : mk_Sh S) (p w : Int) (n : Nat) (hn : n ≤ 6) (h2 : I 112 2 = n) {O T : Int → Int} (hO : ∀ q, 0 ≤ q → q < n → rd I 113 q = O q ∧ rd I 114 q = T q)
    (h : ∀ J, fr (fun a => 112 ≤ a ∧ a ≤ 114) I J → J 112 2 = ((n + 1 : Nat) : Int) → (∀ q, 0 ≤ q → q < ((n + 1 : Nat) : Int) → rd J 113 q = (insL w p n O T).1 q ∧ rd J 114 q = (insL w p n O T).2 q) → Q none J S) : mj_C d 161 [.inr 112, .inl p, .inl w] I S Q := by
  have loop : ∀ (k : Nat) (O2 T2 : Int → Int) (kk : Int) (J : mj_I), kk = k → k ≤ n → fr (fun a => a = 113 ∨ a = 114) I J → (∀ q, 0 ≤ q → q ≤ n → q ≠ k → rd J 113 q = O2 q ∧ rd J 114 q = T2 q) → insL w p n O T = insL w p k O2 T2 → xW d 161 3 [some (.inr (8, 0, 112, 0)), some (.inl p), some (.inl w), some (.inl kk)] [] J S Q := by
    intro k
    induction k with
    | zero =>
      intro O2 T2 kk J g1 g2 hJ g3 g4
      have j2 : J 112 2 = n := by rw [hJ.f (by omega)]; exact h2
      refine x_hd false [3] 40 ?_
      (repeat' (first | simp (disch := omega) only [up_f] | rw [j2] | with_reducible assumption | with_reducible exact rfl | with_reducible exact trivial | (with_reducible (show (_ : Int) ≤ _); omega) | (with_reducible (show (_ : Int) < _); omega) | (with_reducible (show (_ : Nat) < _); omega) | (with_reducible (show (_ : Nat) ≤ _); omega) | with_reducible exact Or.inl rfl | with_reducible exact Or.inr rfl | with_reducible exact Or.inl trivial | with_reducible exact Or.inr trivial | (intro hz; exact absurd hz (by decide)) | (intro hz; exfalso; omega) | refine And.intro ?_ ?_ | intro _))
      all_goals skip
    | succ k ih =>
      intro O2 T2 kk J g1 g2 hJ g3 g4
      have j2 : J 112 2 = n := by rw [hJ.f (by omega)]; exact h2
      have a := g3 k (by omega) (by omega) (by omega)
      have ek : kk - 1 = k := by omega
      refine x_hd false [3] 60 ?_
      (repeat' (first | simp (disch := omega) only [up_f] | rw [j2] | with_reducible assumption | with_reducible exact rfl | with_reducible exact trivial | (with_reducible (show (_ : Int) ≤ _); omega) | (with_reducible (show (_ : Int) < _); omega) | (with_reducible (show (_ : Nat) < _); omega) | (with_reducible (show (_ : Nat) ≤ _); omega) | with_reducible exact Or.inl rfl | with_reducible exact Or.inr rfl | with_reducible exact Or.inl trivial | with_reducible exact Or.inr trivial | (intro hz; exact absurd hz (by decide)) | (intro hz; exfalso; omega) | refine And.intro ?_ ?_ | intro _))
      all_goals skip
  refine x_C false [.inr (8, 0, 112, 0), .inl p, .inl w] [3] 30 hS ⟨xok_tu hS, trivial, trivial, trivial⟩ ?_
  (repeat' (first | with_reducible assumption | with_reducible exact rfl | with_reducible exact trivial | (with_reducible (show (_ : Int) ≤ _); omega) | (with_reducible (show (_ : Int) < _); omega) | (with_reducible (show (_ : Nat) < _); omega) | (with_reducible (show (_ : Nat) ≤ _); omega) | with_reducible exact Or.inl rfl | with_reducible exact Or.inr rfl | with_reducible exact Or.inl trivial | with_reducible exact Or.inr trivial | (intro hz; exact absurd hz (by decide)) | (intro hz; exfalso; omega) | refine And.intro ?_ ?_ | intro _))
  all_goals skip
