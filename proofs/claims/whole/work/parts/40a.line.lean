/-! queue: the line -/
def insL (w p : Int) : Nat → (Int → Int) → (Int → Int) → (Int → Int) × (Int → Int)
  | 0, O, T => (ru O 0 p, ru T 0 w)
  | k + 1, O, T => if w < T k then insL w p k (ru O ((k + 1 : Nat) : Int) (O k)) (ru T ((k + 1 : Nat) : Int) (T k)) else (ru O ((k + 1 : Nat) : Int) p, ru T ((k + 1 : Nat) : Int) w)
def lnN (N : Int → Int) : Nat → Nat × (Int → Int) × (Int → Int)
  | 0 => (0, z0, z0)
  | p + 1 => if awy N p (N 1) then lnN N p else ((lnN N p).1 + 1, insL (waitS N p) p (lnN N p).1 (lnN N p).2.1 (lnN N p).2.2)
theorem insL_p {P : Int → Prop} {w p : Int} (hp : P p) {n : Int} : ∀ (k : Nat) (O T : Int → Int), (k : Int) ≤ n → (∀ q, 0 ≤ q → q ≤ n → q ≠ k → P (O q)) → ∀ q, 0 ≤ q → q ≤ n → P ((insL w p k O T).1 q)
  | 0, O, T, hk, h, q, q0, q1 => by
    show P (ru O 0 p q)
    by_cases e : q = 0
    · rw [e, ru_s]; exact hp
    · rw [ru_n e]; exact h q q0 q1 e
  | k + 1, O, T, hk, h, q, q0, q1 => by
    by_cases e : w < T k
    · have e1 : insL w p (k + 1) O T = insL w p k (ru O ((k + 1 : Nat) : Int) (O k)) (ru T ((k + 1 : Nat) : Int) (T k)) := if_pos e
      rw [e1]
      refine insL_p hp k _ _ (by omega) (fun j j0 j1 hj => ?_) q q0 q1
      by_cases e2 : j = ((k + 1 : Nat) : Int)
      · rw [e2, ru_s]; exact h k (by omega) (by omega) (by omega)
      · rw [ru_n e2]; exact h j j0 j1 e2
    · have e1 : insL w p (k + 1) O T = (ru O ((k + 1 : Nat) : Int) p, ru T ((k + 1 : Nat) : Int) w) := if_neg e
      rw [e1]
      show P (ru O ((k + 1 : Nat) : Int) p q)
      by_cases e2 : q = ((k + 1 : Nat) : Int)
      · rw [e2, ru_s]; exact hp
      · rw [ru_n e2]; exact h q q0 q1 e2
theorem lnN_b {N : Int → Int} : ∀ p : Nat, (lnN N p).1 ≤ p ∧ ∀ q : Int, 0 ≤ q → q < (lnN N p).1 → 0 ≤ (lnN N p).2.1 q ∧ (lnN N p).2.1 q < p
  | 0 => ⟨Nat.le_refl 0, fun q q0 q1 => by have : q < ((0 : Nat) : Int) := q1; omega⟩
  | p + 1 => by
    have ih := lnN_b (N := N) p
    unfold lnN
    split
    · exact ⟨by omega, fun q q0 q1 => by have := ih.2 q q0 q1; omega⟩
    · refine ⟨by show (lnN N p).1 + 1 ≤ p + 1; omega, fun q q0 q1 => ?_⟩
      have q1' : q < (((lnN N p).1 + 1 : Nat) : Int) := q1
      refine insL_p (P := fun v => 0 ≤ v ∧ v < ((p + 1 : Nat) : Int)) (by omega) (n := (lnN N p).1) (lnN N p).1 _ _ (by omega) (fun j j0 j1 hj => ?_) q q0 (by omega)
      have := ih.2 j j0 (by omega)
      omega
/-- 161 putInLine -/
theorem c_putInLine {d : Nat} {I : mj_I} {S : mj_S} {Q : mj_Q} (hS : mk_Sh S) (p w : Int) (n : Nat) (hn : n ≤ 6) (h2 : I 112 2 = n) {O T : Int → Int} (hO : ∀ q : Int, 0 ≤ q → q < n → rd I 113 q = O q ∧ rd I 114 q = T q)
    (h : ∀ J, fr (fun a => 112 ≤ a ∧ a ≤ 114) I J → J 112 2 = ((n + 1 : Nat) : Int) → (∀ q, 0 ≤ q → q < ((n + 1 : Nat) : Int) → rd J 113 q = (insL w p n O T).1 q ∧ rd J 114 q = (insL w p n O T).2 q) → Q none J S) : mj_C d 161 [.inr 112, .inl p, .inl w] I S Q := by
  have loop : ∀ (k : Nat) (O2 T2 : Int → Int) (kk : Int) (J : mj_I), kk = k → k ≤ n → fr (fun a => a = 113 ∨ a = 114) I J → (∀ q : Int, 0 ≤ q → q ≤ n → q ≠ k → rd J 113 q = O2 q ∧ rd J 114 q = T2 q) → insL w p n O T = insL w p k O2 T2 → xW d 161 3 [some (.inr (8, 0, 112, 0)), some (.inl p), some (.inl w), some (.inl kk)] [] J S Q := by
    intro k
    induction k with
    | zero =>
      intro O2 T2 kk J g1 g2 hJ g3 g4
      have j2 : J 112 2 = n := by rw [hJ.f (by omega)]; exact h2
      refine x_hd false [3] 40 ?_
      (repeat' (first | simp (disch := omega) only [up_f] | rw [j2] | with_reducible assumption | with_reducible exact rfl | with_reducible exact trivial | (with_reducible (show (_ : Int) ≤ _); omega) | (with_reducible (show (_ : Int) < _); omega) | (with_reducible (show (_ : Nat) < _); omega) | (with_reducible (show (_ : Nat) ≤ _); omega) | with_reducible exact Or.inl rfl | with_reducible exact Or.inr rfl | with_reducible exact Or.inl trivial | with_reducible exact Or.inr trivial | (intro hz; exact absurd hz (by decide)) | (intro hz; exfalso; omega) | refine And.intro ?_ ?_ | intro _))
      refine h _ (((hJ.mo (fun a q => by omega)).up (by omega) _ _).up (by omega) _ _ |>.mu (by omega) _ _) (by rw [mj_up_s]; omega) (fun q q0 q1 => ?_)
      rw [g4, show insL w p 0 O2 T2 = (ru O2 ((0 : Nat) : Int) p, ru T2 ((0 : Nat) : Int) w) from rfl]
      dsimp only
      rw [rd_mu (by omega), rd_mu (by omega), rd_up (by omega) (by omega), rd_uo (a := 113) (b := 114) (by omega), rd_up (by omega) (by omega), rd_uo (by omega), g1]
      by_cases e : q = ((0 : Nat) : Int)
      · rw [e, ru_s, ru_s, ru_s, ru_s]; exact ⟨rfl, rfl⟩
      · rw [ru_n e, ru_n e, ru_n e, ru_n e]; exact g3 q q0 (by omega) e
    | succ k ih =>
      intro O2 T2 kk J g1 g2 hJ g3 g4
      have j2 : J 112 2 = n := by rw [hJ.f (by omega)]; exact h2
      have a := g3 k (by omega) (by omega) (by omega)
      have ek : kk - 1 = k := by omega
      refine x_hd false [3] 60 ?_
      (repeat' (first | simp (disch := omega) only [up_f] | rw [j2] | with_reducible assumption | with_reducible exact rfl | with_reducible exact trivial | (with_reducible (show (_ : Int) ≤ _); omega) | (with_reducible (show (_ : Int) < _); omega) | (with_reducible (show (_ : Nat) < _); omega) | (with_reducible (show (_ : Nat) ≤ _); omega) | with_reducible exact Or.inl rfl | with_reducible exact Or.inr rfl | with_reducible exact Or.inl trivial | with_reducible exact Or.inr trivial | (intro hz; exact absurd hz (by decide)) | (intro hz; exfalso; omega) | refine And.intro ?_ ?_ | intro _))
      · rename_i z
        rw [ek, a.2] at z
        have z : ¬ w < T2 k := by omega
        refine h _ (((hJ.mo (fun a q => by omega)).up (by omega) _ _).up (by omega) _ _ |>.mu (by omega) _ _) (by rw [mj_up_s]; omega) (fun q q0 q1 => ?_)
        rw [g4, show insL w p (k + 1) O2 T2 = (ru O2 ((k + 1 : Nat) : Int) p, ru T2 ((k + 1 : Nat) : Int) w) from if_neg z]
        dsimp only
        rw [rd_mu (by omega), rd_mu (by omega), rd_up (by omega) (by omega), rd_uo (a := 113) (b := 114) (by omega), rd_up (by omega) (by omega), rd_uo (by omega), g1]
        by_cases e : q = ((k + 1 : Nat) : Int)
        · rw [e, ru_s, ru_s, ru_s, ru_s]; exact ⟨rfl, rfl⟩
        · rw [ru_n e, ru_n e, ru_n e, ru_n e]; exact g3 q q0 (by omega) e
      · rename_i z
        rw [ek, a.2] at z
        have e1 : insL w p (k + 1) O2 T2 = insL w p k (ru O2 ((k + 1 : Nat) : Int) (O2 k)) (ru T2 ((k + 1 : Nat) : Int) (T2 k)) := if_pos (by omega)
        rw [rd_uo (by omega), ek, a.1, a.2]
        refine ih _ _ _ _ (by omega) (by omega) ((hJ.up (Or.inr rfl) _ _).up (Or.inl rfl) _ _) (fun q q0 q1 hq => ?_) (by rw [g4, e1])
        rw [rd_up (by omega) (by omega), rd_uo (a := 113) (b := 114) (by omega), rd_up (by omega) (by omega), rd_uo (by omega), g1]
        by_cases e : q = ((k + 1 : Nat) : Int)
        · rw [e, ru_s, ru_s, ru_s, ru_s]; exact ⟨rfl, rfl⟩
        · rw [ru_n e, ru_n e, ru_n e, ru_n e]; exact g3 q q0 q1 e
  refine x_C false [.inr (8, 0, 112, 0), .inl p, .inl w] [3] 30 hS ⟨xok_tu hS, trivial, trivial, trivial⟩ ?_
  exact loop n O T _ I h2 (Nat.le_refl n) fr.refl (fun q q0 q1 hq => hO q q0 (by omega)) rfl
/-- 160 lineUp -/
theorem c_lineUp {d : Nat} {I : mj_I} {S : mj_S} {Q : mj_Q} (hS : mk_Sh S) {N : Int → Int} (hN : Inv N) (hC : Cb I S 21 N) (hd : 3 < d)
    (h : ∀ J, fr (fun a => a = 33 ∨ a = 34 ∨ (112 ≤ a ∧ a ≤ 114)) I J → J 112 2 = ((lnN N (N 2).toNat).1 : Nat) → (∀ q : Int, 0 ≤ q → q < (lnN N (N 2).toNat).1 → rd J 113 q = (lnN N (N 2).toNat).2.1 q) → Q none J S) : mj_C d 160 [.inr 112, .inr 21] I S Q := by
  have hH := hN.1
  have hCH := hC.1
  have hb : mB 21 := Or.inl rfl
  unfold InvH at hH
  unfold CbH at hCH
  have loop : ∀ m k : Nat, (k + m : Int) = N 2 → ∀ (kk : Int) (J : mj_I), kk = k → fr (fun a => a = 33 ∨ a = 34 ∨ (112 ≤ a ∧ a ≤ 114)) I J → J 112 2 = ((lnN N k).1 : Nat) → (∀ q : Int, 0 ≤ q → q < (lnN N k).1 → rd J 113 q = (lnN N k).2.1 q ∧ rd J 114 q = (lnN N k).2.2 q) → xW d 160 5 [some (.inr (8, 0, 112, 0)), some (.inr (2, 21, 21, 0)), some (.inl kk)] [] J S Q := by
    intro m
    induction m with
    | zero =>
      intro k hk kk J g1 hJ g2 g3
      have j1 : J 21 1 = N 2 := by rw [hJ.f (by omega)]; exact hCH.2.2.1
      refine x_hd false [5] 30 ?_
      (repeat' (first | rw [j1] | with_reducible assumption | with_reducible exact rfl | with_reducible exact trivial | (with_reducible (show (_ : Int) ≤ _); omega) | (with_reducible (show (_ : Int) < _); omega) | (with_reducible (show (_ : Nat) < _); omega) | (with_reducible (show (_ : Nat) ≤ _); omega) | with_reducible exact Or.inl rfl | with_reducible exact Or.inr rfl | with_reducible exact Or.inl trivial | with_reducible exact Or.inr trivial | (intro hz; exact absurd hz (by decide)) | (intro hz; exfalso; omega) | refine And.intro ?_ ?_ | intro _))
      rw [show (N 2).toNat = k by omega] at h
      exact h J hJ g2 (fun q q0 q1 => (g3 q q0 q1).1)
    | succ m ih =>
      intro k hk kk J g1 hJ g2 g3
      subst g1
      have j1 : J 21 1 = N 2 := by rw [hJ.f (by omega)]; exact hCH.2.2.1
      have j13 : J 21 13 = N 1 := by rw [hJ.f (by omega)]; exact hCH.2.1
      have hCJ := hC.fr hN.1 hJ (fun a q => by unfold bc at q; omega)
      have hCP := hCJ.2.1 k (by omega) (by omega)
      have c4 : J (21 + 15 + (k : Int).toNat) 4 = N (8 + 8 * (k : Int) + 4) := hCP.2.2.2.2.1
      have c5 : J (21 + 15 + (k : Int).toNat) 5 = N (8 + 8 * (k : Int) + 5) := hCP.2.2.2.2.2.1
      have hlb := lnN_b (N := N) k
      have l1 : awy N k (N 1) → lnN N (k + 1) = lnN N k := fun q => if_pos q
      have l2 : ¬ awy N k (N 1) → lnN N (k + 1) = ((lnN N k).1 + 1, insL (waitS N k) k (lnN N k).1 (lnN N k).2.1 (lnN N k).2.2) := fun q => if_neg q
      refine x_hd false [5] 40 ?_
      (repeat' (first | rw [j1] | rw [j13] | exact tg_P hS hb (by omega) (by omega) | refine c_isAway _ _ ?_ ?_ ?_ | refine c_waitOf hS hb hN hCJ _ ?_ ?_ (fun K hK => ?_) | refine c_putInLine hS _ _ (lnN N k).1 (by omega) (by rw [hK.f (by omega)]; exact g2) (O := (lnN N k).2.1) (T := (lnN N k).2.2) (fun q q0 q1 => by rw [hK.r (by omega), hK.r (by omega)]; exact g3 q q0 q1) (fun A hA a1 a2 => ?_) | with_reducible assumption | with_reducible exact rfl | with_reducible exact trivial | (with_reducible (show (_ : Int) ≤ _); omega) | (with_reducible (show (_ : Int) < _); omega) | (with_reducible (show (_ : Nat) < _); omega) | (with_reducible (show (_ : Nat) ≤ _); omega) | with_reducible exact Or.inl rfl | with_reducible exact Or.inr rfl | with_reducible exact Or.inl trivial | with_reducible exact Or.inr trivial | (intro hz; exact absurd hz (by decide)) | (intro hz; exfalso; omega) | refine And.intro ?_ ?_ | intro _))
      · rename_i z _
        rw [c4, c5] at z
        exact ih (k + 1) (by omega) _ J (by omega) hJ (by rw [l1 z]; exact g2) (by rw [l1 z]; exact g3)
      · rename_i z _
        rw [c4, c5] at z
        exact ih (k + 1) (by omega) _ A (by omega) ((hJ.tr (hK.mo (fun a q => by omega))).tr (hA.mo (fun a q => by omega))) (by rw [l2 z]; exact a1) (by rw [l2 z]; exact a2)
  refine x_C false [.inr (8, 0, 112, 0), .inr (2, 21, 21, 0)] [5] 30 hS ⟨xok_tu hS, xok_b hS hb, trivial⟩ ?_
  exact loop (N 2).toNat 0 (by omega) _ _ rfl (fr.refl.mu (by omega) _ _) (by rw [mj_up_s]; rfl) (fun q q0 q1 => by have : q < ((0 : Nat) : Int) := q1; omega)
/-- 276 linesUp -/
theorem m_linesUp {d : Nat} {I : mj_I} {S : mj_S} {Q : mj_Q} (hS : mk_Sh S) (hN : Inv (rd I 151)) (hd : 3 < d)
    (h : ∀ J, fr (fun a => a = 162 ∨ a = 163 ∨ a = 170 ∨ a = 171) I J → (∀ q : Int, 0 ≤ q → q < (lnN (rd I 151) (rd I 151 2).toNat).1 → rd J 170 q = (lnN (rd I 151) (rd I 151 2).toNat).2.1 q) → Q (some (.inl ((lnN (rd I 151) (rd I 151 2).toNat).1 : Int))) J S) : mj_C d 276 [.inr 150] I S Q := by
  have hH := hN.1
  unfold InvH at hH
  have loop : ∀ m k : Nat, (k + m : Int) = rd I 151 2 → ∀ (kk n : Int) (w3 w4 : Option xV) (J : mj_I), kk = k → n = ((lnN (rd I 151) k).1 : Nat) → fr (fun a => a = 162 ∨ a = 163 ∨ a = 170 ∨ a = 171) I J → (∀ q : Int, 0 ≤ q → q < (lnN (rd I 151) k).1 → rd J 170 q = (lnN (rd I 151) k).2.1 q ∧ rd J 171 q = (lnN (rd I 151) k).2.2 q) → xW d 276 4 [some (.inr (13, 0, 150, 0)), some (.inl n), some (.inl kk), w3, w4] [] J S Q := by
    intro m
    induction m with
    | zero =>
      intro k hk kk n w3 w4 J g1 g2 hJ g3
      have e151 : rd J 151 = rd I 151 := hJ.r (by omega)
      refine x_hd false [4] 30 ?_
      (repeat' (first | rw [e151] | with_reducible assumption | with_reducible exact rfl | with_reducible exact trivial | (with_reducible (show (_ : Int) ≤ _); omega) | (with_reducible (show (_ : Int) < _); omega) | (with_reducible (show (_ : Nat) < _); omega) | (with_reducible (show (_ : Nat) ≤ _); omega) | with_reducible exact Or.inl rfl | with_reducible exact Or.inr rfl | with_reducible exact Or.inl trivial | with_reducible exact Or.inr trivial | (intro hz; exact absurd hz (by decide)) | (intro hz; exfalso; omega) | refine And.intro ?_ ?_ | intro _))
      rw [show (rd I 151 2).toNat = k by omega] at h
      exact Qe (h J hJ (fun q q0 q1 => (g3 q q0 q1).1)) g2.symm
    | succ m ih =>
      intro k hk kk n w3 w4 J g1 g2 hJ g3
      subst g1
      have e151 : rd J 151 = rd I 151 := hJ.r (by omega)
      have hlb := lnN_b (N := rd I 151) k
      have l1 : awy (rd I 151) k (rd I 151 1) → lnN (rd I 151) (k + 1) = lnN (rd I 151) k := fun q => if_pos q
      have l2 : ¬ awy (rd I 151) k (rd I 151 1) → lnN (rd I 151) (k + 1) = ((lnN (rd I 151) k).1 + 1, insL (waitS (rd I 151) k) k (lnN (rd I 151) k).1 (lnN (rd I 151) k).2.1 (lnN (rd I 151) k).2.2) := fun q => if_neg q
      have inner : ¬ awy (rd I 151) k (rd I 151 1) → ∀ (j : Nat) (O2 T2 : Int → Int) (jj : Int) (K : mj_I), jj = j → j ≤ (lnN (rd I 151) k).1 → fr (fun a => a = 162 ∨ a = 163 ∨ a = 170 ∨ a = 171) I K → (∀ q : Int, 0 ≤ q → q ≤ (lnN (rd I 151) k).1 → q ≠ j → rd K 170 q = O2 q ∧ rd K 171 q = T2 q) → insL (waitS (rd I 151) k) k (lnN (rd I 151) k).1 (lnN (rd I 151) k).2.1 (lnN (rd I 151) k).2.2 = insL (waitS (rd I 151) k) k j O2 T2 → xW d 276 25 [some (.inr (13, 0, 150, 0)), some (.inl n), some (.inl (k : Int)), some (.inl (waitS (rd I 151) k)), some (.inl jj)] [] K S Q := by
        intro hna j
        induction j with
        | zero =>
          intro O2 T2 jj K f1 f2 hK f3 f4
          refine x_hd false [4, 25] 40 ?_
          (repeat' (first | with_reducible assumption | with_reducible exact rfl | with_reducible exact trivial | (with_reducible (show (_ : Int) ≤ _); omega) | (with_reducible (show (_ : Int) < _); omega) | (with_reducible (show (_ : Nat) < _); omega) | (with_reducible (show (_ : Nat) ≤ _); omega) | with_reducible exact Or.inl rfl | with_reducible exact Or.inr rfl | with_reducible exact Or.inl trivial | with_reducible exact Or.inr trivial | (intro hz; exact absurd hz (by decide)) | (intro hz; exfalso; omega) | refine And.intro ?_ ?_ | intro _))
          refine ih (k + 1) (by omega) _ _ _ _ _ (by omega) (by rw [l2 hna]; show n + 1 = (((lnN (rd I 151) k).1 + 1 : Nat) : Int); omega) ((hK.up (by omega) _ _).up (by omega) _ _) (fun q q0 q1 => ?_)
          rw [l2 hna] at q1 ⊢
          have q1' : q < (((lnN (rd I 151) k).1 + 1 : Nat) : Int) := q1
          dsimp only
          rw [f4, show insL (waitS (rd I 151) k) k 0 O2 T2 = (ru O2 ((0 : Nat) : Int) k, ru T2 ((0 : Nat) : Int) (waitS (rd I 151) k)) from rfl]
          dsimp only
          rw [rd_uo (a := 171) (b := 170) (by omega), rd_up (by omega) (by omega), rd_up (by omega) (by omega), rd_uo (by omega), f1]
          by_cases e : q = ((0 : Nat) : Int)
          · rw [e, ru_s, ru_s, ru_s, ru_s]; exact ⟨rfl, rfl⟩
          · rw [ru_n e, ru_n e, ru_n e, ru_n e]; exact f3 q q0 (by omega) e
        | succ j ihj =>
          intro O2 T2 jj K f1 f2 hK f3 f4
          have a := f3 j (by omega) (by omega) (by omega)
          have ek : jj - 1 = j := by omega
          refine x_hd false [4, 25] 60 ?_
          (repeat' (first | with_reducible assumption | with_reducible exact rfl | with_reducible exact trivial | (with_reducible (show (_ : Int) ≤ _); omega) | (with_reducible (show (_ : Int) < _); omega) | (with_reducible (show (_ : Nat) < _); omega) | (with_reducible (show (_ : Nat) ≤ _); omega) | with_reducible exact Or.inl rfl | with_reducible exact Or.inr rfl | with_reducible exact Or.inl trivial | with_reducible exact Or.inr trivial | (intro hz; exact absurd hz (by decide)) | (intro hz; exfalso; omega) | refine And.intro ?_ ?_ | intro _))
          · rename_i z
            rw [ek, a.2] at z
            have z : ¬ waitS (rd I 151) k < T2 j := by omega
            refine ih (k + 1) (by omega) _ _ _ _ _ (by omega) (by rw [l2 hna]; show n + 1 = (((lnN (rd I 151) k).1 + 1 : Nat) : Int); omega) ((hK.up (by omega) _ _).up (by omega) _ _) (fun q q0 q1 => ?_)
            rw [l2 hna] at q1 ⊢
            have q1' : q < (((lnN (rd I 151) k).1 + 1 : Nat) : Int) := q1
            dsimp only
            rw [f4, show insL (waitS (rd I 151) k) k (j + 1) O2 T2 = (ru O2 ((j + 1 : Nat) : Int) k, ru T2 ((j + 1 : Nat) : Int) (waitS (rd I 151) k)) from if_neg z]
            dsimp only
            rw [rd_uo (a := 171) (b := 170) (by omega), rd_up (by omega) (by omega), rd_up (by omega) (by omega), rd_uo (by omega), f1]
            by_cases e : q = ((j + 1 : Nat) : Int)
            · rw [e, ru_s, ru_s, ru_s, ru_s]; exact ⟨rfl, rfl⟩
            · rw [ru_n e, ru_n e, ru_n e, ru_n e]; exact f3 q q0 (by omega) e
          · rename_i z
            rw [ek, a.2] at z
            have e1 : insL (waitS (rd I 151) k) k (j + 1) O2 T2 = insL (waitS (rd I 151) k) k j (ru O2 ((j + 1 : Nat) : Int) (O2 j)) (ru T2 ((j + 1 : Nat) : Int) (T2 j)) := if_pos (by omega)
            rw [rd_uo (by omega), ek, a.1, a.2]
            refine ihj _ _ _ _ (by omega) (by omega) ((hK.up (by omega) _ _).up (by omega) _ _) (fun q q0 q1 hq => ?_) (by rw [f4, e1])
            rw [rd_uo (a := 171) (b := 170) (by omega), rd_up (by omega) (by omega), rd_up (by omega) (by omega), rd_uo (by omega), f1]
            by_cases e : q = ((j + 1 : Nat) : Int)
            · rw [e, ru_s, ru_s, ru_s, ru_s]; exact ⟨rfl, rfl⟩
            · rw [ru_n e, ru_n e, ru_n e, ru_n e]; exact f3 q q0 q1 e
      refine x_hd false [4, 25] 40 ?_
      (repeat' (first | rw [e151] | refine m_isAway hS _ _ ?_ ?_ ?_ ?_ | refine m_waitOf hS _ (by rw [e151]; exact hN) ?_ ?_ (fun K hK => ?_) | with_reducible assumption | with_reducible exact rfl | with_reducible exact trivial | (with_reducible (show (_ : Int) ≤ _); omega) | (with_reducible (show (_ : Int) < _); omega) | (with_reducible (show (_ : Nat) < _); omega) | (with_reducible (show (_ : Nat) ≤ _); omega) | with_reducible exact Or.inl rfl | with_reducible exact Or.inr rfl | with_reducible exact Or.inl trivial | with_reducible exact Or.inr trivial | (intro hz; exact absurd hz (by decide)) | (intro hz; exfalso; omega) | refine And.intro ?_ ?_ | intro _))
      · rename_i z _
        exact ih (k + 1) (by omega) _ _ _ _ J (by omega) (by rw [l1 z]; exact g2) hJ (by rw [l1 z]; exact g3)
      · rename_i z _
        exact inner z (lnN (rd I 151) k).1 (lnN (rd I 151) k).2.1 (lnN (rd I 151) k).2.2 _ K g2 (Nat.le_refl _) (hJ.tr (hK.mo (fun a q => by omega))) (fun q q0 q1 hq => by rw [hK.r (by omega), hK.r (by omega)]; exact g3 q q0 (by omega)) rfl
  refine x_C false [.inr (13, 0, 150, 0)] [4] 30 hS ⟨xok_m hS, trivial⟩ ?_
  (repeat' (first | with_reducible assumption | with_reducible exact rfl | with_reducible exact trivial | (with_reducible (show (_ : Int) ≤ _); omega) | (with_reducible (show (_ : Int) < _); omega) | (with_reducible (show (_ : Nat) < _); omega) | (with_reducible (show (_ : Nat) ≤ _); omega) | with_reducible exact Or.inl rfl | with_reducible exact Or.inr rfl | with_reducible exact Or.inl trivial | with_reducible exact Or.inr trivial | (intro hz; exact absurd hz (by decide)) | (intro hz; exfalso; omega) | refine And.intro ?_ ?_ | intro _))
  exact loop (rd I 151 2).toNat 0 (by omega) _ _ _ _ I rfl rfl fr.refl (fun q q0 q1 => by have : q < ((0 : Nat) : Int) := q1; omega)
