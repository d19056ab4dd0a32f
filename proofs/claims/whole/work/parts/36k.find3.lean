/-! the finder's further questions -/
/-- 129 readCosts -/
theorem c_readCosts {d : Nat} {I : mj_I} {S : mj_S} {Q : mj_Q} (hS : mk_Sh S) {b : Nat} (hb : mB b) {N : Int → Int} {day : Int} (hN : Inv N) (hC : Cb I S b N) (hO : OS N day I) (hd : 3 < d)
    (h : ∀ J, fr (fun a => a = 109 ∨ a = b + 12 ∨ a = b + 13) I J → (∀ s p, 0 ≤ s → s < N 3 → 0 ≤ p → p < N 2 → rd J 109 (s * 7 + p) = c1 N s p) → Q none J S) : mj_C d 129 [.inr 101, .inr b] I S Q := by
  have hH := hN.1
  unfold InvH at hH
  have hb61 : 21 ≤ b ∧ b ≤ 61 := by unfold mB at hb; omega
  have loop : ∀ (m : Nat) (s : Int), 0 ≤ s → s + m = N 3 → ∀ (J : mj_I) (w : Option xV), fr (fun a => a = 109 ∨ a = b + 12 ∨ a = b + 13) I J → (∀ u p, 0 ≤ u → u < s → 0 ≤ p → p < N 2 → rd J 109 (u * 7 + p) = c1 N u p) → xW d 129 2 [some (.inr (7, 0, 101, 0)), some (.inr (2, b, b, 0)), some (.inl s), w] [] J S Q := by
    intro m
    induction m with
    | zero =>
      intro s s0 s1 J w hJ h1
      have j1 : J 101 1 = N 3 := by rw [hJ.f (by omega)]; exact hO.1.2.1
      refine x_hd false [2] 30 ?_
      (repeat' (first | with_reducible assumption | with_reducible exact rfl | with_reducible exact trivial | (with_reducible (show (_ : Int) ≤ _); omega) | (with_reducible (show (_ : Int) < _); omega) | (with_reducible (show (_ : Nat) < _); omega) | (with_reducible (show (_ : Nat) ≤ _); omega) | with_reducible exact Or.inl rfl | with_reducible exact Or.inr rfl | with_reducible exact Or.inl trivial | with_reducible exact Or.inr trivial | (intro hz; exact absurd hz (by decide)) | (intro hz; exfalso; omega) | refine And.intro ?_ ?_ | intro _))
      exact h J hJ (fun u p u0 u1 => h1 u p u0 (by omega))
    | succ m ih =>
      intro s s0 s1 J w hJ h1
      have j1 : J 101 1 = N 3 := by rw [hJ.f (by omega)]; exact hO.1.2.1
      have inner : ∀ (x : Nat) (p : Int), 0 ≤ p → p + x = N 2 → ∀ (K : mj_I), fr (fun a => a = 109 ∨ a = b + 12 ∨ a = b + 13) I K → (∀ u p, 0 ≤ u → u < s → 0 ≤ p → p < N 2 → rd K 109 (u * 7 + p) = c1 N u p) → (∀ q, 0 ≤ q → q < p → rd K 109 (s * 7 + q) = c1 N s q) → xW d 129 8 [some (.inr (7, 0, 101, 0)), some (.inr (2, b, b, 0)), some (.inl s), some (.inl p)] [] K S Q := by
        intro x
        induction x with
        | zero =>
          intro p p0 p1 K hK k1 k2
          have j0 : K 101 0 = N 2 := by rw [hK.f (by omega)]; exact hO.1.1
          refine x_hd false [2, 8] 30 ?_
          (repeat' (first | with_reducible assumption | with_reducible exact rfl | with_reducible exact trivial | (with_reducible (show (_ : Int) ≤ _); omega) | (with_reducible (show (_ : Int) < _); omega) | (with_reducible (show (_ : Nat) < _); omega) | (with_reducible (show (_ : Nat) ≤ _); omega) | with_reducible exact Or.inl rfl | with_reducible exact Or.inr rfl | with_reducible exact Or.inl trivial | with_reducible exact Or.inr trivial | (intro hz; exact absurd hz (by decide)) | (intro hz; exfalso; omega) | refine And.intro ?_ ?_ | intro _))
          refine ih (s + 1) (by omega) (by omega) K _ hK (fun u q u0 u1 q0 q1 => ?_)
          by_cases e : u = s
          · rw [e]; exact k2 q q0 (by omega)
          · exact k1 u q u0 (by omega) q0 q1
        | succ x ihx =>
          intro p p0 p1 K hK k1 k2
          have j0 : K 101 0 = N 2 := by rw [hK.f (by omega)]; exact hO.1.1
          have j3 : mt (K 101 2) s.toNat = decide (N (64 + 4 * s + 3) < 0) := by rw [hK.f (by omega)]; exact hO.2.2 s s0 (by omega)
          have hCK := hC.fr hN.1 hK (fun a q => by unfold bc at q; omega)
          have nxt : ∀ (A : mj_I) (v : Int), fr (fun a => a = b + 12 ∨ a = b + 13) K A → v = c1 N s p → xW d 129 8 [some (.inr (7, 0, 101, 0)), some (.inr (2, b, b, 0)), some (.inl s), some (.inl (p + 1))] [] (up A 109 (s * 7 + p) v) S Q := by
            intro A v hA hv
            refine ihx (p + 1) (by omega) (by omega) _ ((hK.tr (hA.mo (fun a q => by omega))).up (Or.inl rfl) _ _) (fun u q u0 u1 q0 q1 => ?_) (fun q q0 q1 => ?_)
            · rw [rd_up (by omega) (by omega), ru_n (by omega), hA.r (by omega)]; exact k1 u q u0 u1 q0 q1
            · rw [rd_up (by omega) (by omega)]
              by_cases e : q = p
              · rw [e, ru_s, hv]
              · rw [ru_n (by omega), hA.r (by omega)]; exact k2 q q0 (by omega)
          refine x_hd false [2, 8] 40 ?_
          (repeat' (first | refine c_isOpen hS _ ?_ ?_ ?_ | refine c_costOf hS hb hN hCK _ _ ?_ ?_ ?_ ?_ | with_reducible assumption | with_reducible exact rfl | with_reducible exact trivial | (with_reducible (show (_ : Int) ≤ _); omega) | (with_reducible (show (_ : Int) < _); omega) | (with_reducible (show (_ : Nat) < _); omega) | (with_reducible (show (_ : Nat) ≤ _); omega) | with_reducible exact Or.inl rfl | with_reducible exact Or.inr rfl | with_reducible exact Or.inl trivial | with_reducible exact Or.inr trivial | (intro hz; exact absurd hz (by decide)) | (intro hz; exfalso; omega) | refine And.intro ?_ ?_ | intro _))
          · rename_i z _ A hA
            rw [j3, decide_eq_true_eq] at z
            exact nxt A _ hA (by unfold c1; rw [if_neg (by omega)])
          · rename_i z _
            rw [j3, decide_eq_false_iff_not] at z
            exact nxt K 0 fr.refl (by unfold c1; rw [if_pos (by omega)])
      refine x_hd false [2, 8] 30 ?_
      (repeat' (first | with_reducible assumption | with_reducible exact rfl | with_reducible exact trivial | (with_reducible (show (_ : Int) ≤ _); omega) | (with_reducible (show (_ : Int) < _); omega) | (with_reducible (show (_ : Nat) < _); omega) | (with_reducible (show (_ : Nat) ≤ _); omega) | with_reducible exact Or.inl rfl | with_reducible exact Or.inr rfl | with_reducible exact Or.inl trivial | with_reducible exact Or.inr trivial | (intro hz; exact absurd hz (by decide)) | (intro hz; exfalso; omega) | refine And.intro ?_ ?_ | intro _))
      exact inner (N 2).toNat 0 (by omega) (by omega) J hJ h1 (fun q q0 q1 => by omega)
  refine x_C false [.inr (7, 0, 101, 0), .inr (2, b, b, 0)] [2] 30 hS ⟨xok_fi hS, xok_b hS hb, trivial⟩ ?_
  (repeat' (first | with_reducible assumption | with_reducible exact rfl | with_reducible exact trivial | (with_reducible (show (_ : Int) ≤ _); omega) | (with_reducible (show (_ : Int) < _); omega) | (with_reducible (show (_ : Nat) < _); omega) | (with_reducible (show (_ : Nat) ≤ _); omega) | with_reducible exact Or.inl rfl | with_reducible exact Or.inr rfl | with_reducible exact Or.inl trivial | with_reducible exact Or.inr trivial | (intro hz; exact absurd hz (by decide)) | (intro hz; exfalso; omega) | refine And.intro ?_ ?_ | intro _))
  exact loop (N 3).toNat 0 (by omega) (by omega) _ _ fr.refl (fun u p u0 u1 => by omega)
/-- 130 findFirst -/
theorem c_findFirst {d : Nat} {I : mj_I} {S : mj_S} {Q : mj_Q} (hS : mk_Sh S) {N : Int → Int} {day : Int} (hN : Inv N) (hO : OS N day I) (hd : 10 < d)
    (hT : ∀ J v l, fr (fun a => a = 103 ∨ a = 108 ∨ a = 111) I J → allW N (abB N z0 day 0) = v :: l → (∀ q, 0 ≤ q → q < N 3 → rd J 111 q = v q) → Q (some (.inl 1)) J S) (hE : ∀ J, fr (fun a => a = 103 ∨ a = 108 ∨ a = 111) I J → allW N (abB N z0 day 0) = [] → Q (some (.inl 0)) J S) : mj_C d 130 [.inr 101] I S Q := by
  have hH := hN.1
  unfold InvH at hH
  refine x_C false [.inr (7, 0, 101, 0)] [] 30 hS ⟨xok_fi hS, trivial⟩ ?_
  (repeat' (first | refine c_isAny hS hN hO _ ?_ ?_ ?_ | with_reducible assumption | with_reducible exact rfl | with_reducible exact trivial | (with_reducible (show (_ : Int) ≤ _); omega) | (with_reducible (show (_ : Int) < _); omega) | (with_reducible (show (_ : Nat) < _); omega) | (with_reducible (show (_ : Nat) ≤ _); omega) | with_reducible exact Or.inl rfl | with_reducible exact Or.inr rfl | with_reducible exact Or.inl trivial | with_reducible exact Or.inr trivial | (intro hz; exact absurd hz (by decide)) | (intro hz; exfalso; omega) | refine And.intro ?_ ?_ | intro _))
  · rename_i K v l hK hl hr _
    refine hT _ v l (fun c hc => ?_) hl (fun q q0 q1 => ?_)
    · rw [cpg_o (by omega)]
      exact hK c (by omega)
    · rw [cpg_rd (by omega) (by omega) (by omega) (by omega) (by omega) q0 (by omega), if_pos (by omega), show (0 : Int) + (q - 0) = q by omega]
      exact hr q q0 q1
  · rename_i K hK hl _
    exact hE K (hK.mo (fun a q => by omega)) hl
/-- 137 foundCost -/
theorem c_foundCost {d : Nat} {I : mj_I} {S : mj_S} {Q : mj_Q} (hS : mk_Sh S) {N : Int → Int} (hN : Inv N) (h1 : I 101 1 = N 3) {w : Int → Int} (hw : ∀ q, 0 ≤ q → q < N 3 → 0 ≤ w q ∧ w q < N 2) (hr : ∀ q, 0 ≤ q → q < N 3 → rd I 111 q = w q) (hc : ∀ s p, 0 ≤ s → s < N 3 → 0 ≤ p → p < N 2 → rd I 109 (s * 7 + p) = c1 N s p) (h : Q (some (.inl (cst N w))) I S) : mj_C d 137 [.inr 101] I S Q := by
  have hH := hN.1
  unfold InvH at hH
  have loop : ∀ m k : Nat, (k + m : Int) = N 3 → ∀ (sum kk : Int), kk = k → sum = cstN N w k → xW d 137 4 [some (.inr (7, 0, 101, 0)), some (.inl sum), some (.inl kk)] [] I S Q := by
    intro m
    induction m with
    | zero =>
      intro k hk sum kk g1 g2
      refine x_hd false [4] 30 ?_
      (repeat' (first | with_reducible assumption | with_reducible exact rfl | with_reducible exact trivial | (with_reducible (show (_ : Int) ≤ _); omega) | (with_reducible (show (_ : Int) < _); omega) | (with_reducible (show (_ : Nat) < _); omega) | (with_reducible (show (_ : Nat) ≤ _); omega) | with_reducible exact Or.inl rfl | with_reducible exact Or.inr rfl | with_reducible exact Or.inl trivial | with_reducible exact Or.inr trivial | (intro hz; exact absurd hz (by decide)) | (intro hz; exfalso; omega) | refine And.intro ?_ ?_ | intro _))
      refine Qe h ?_
      unfold cst
      rw [g2, show (N 3).toNat = k by omega]
    | succ m ih =>
      intro k hk sum kk g1 g2
      subst g1
      have hb := cstN_b (N := N) (W := w) k
      have hwk := hw k (by omega) (by omega)
      have er := hr k (by omega) (by omega)
      have ec := hc k (w k) (by omega) (by omega) hwk.1 hwk.2
      have eb := c1_b (N := N) (s := k) (p := w k)
      refine x_hd false [4] 40 ?_
      (repeat' (first | rw [er] | rw [ec] | with_reducible assumption | with_reducible exact rfl | with_reducible exact trivial | (with_reducible (show (_ : Int) ≤ _); omega) | (with_reducible (show (_ : Int) < _); omega) | (with_reducible (show (_ : Nat) < _); omega) | (with_reducible (show (_ : Nat) ≤ _); omega) | with_reducible exact Or.inl rfl | with_reducible exact Or.inr rfl | with_reducible exact Or.inl trivial | with_reducible exact Or.inr trivial | (intro hz; exact absurd hz (by decide)) | (intro hz; exfalso; omega) | refine And.intro ?_ ?_ | intro _))
      refine ih (k + 1) (by omega) _ _ (by omega) ?_
      rw [cstN_s, g2]
  refine x_C false [.inr (7, 0, 101, 0)] [4] 30 hS ⟨xok_fi hS, trivial⟩ ?_
  (repeat' (first | with_reducible assumption | with_reducible exact rfl | with_reducible exact trivial | (with_reducible (show (_ : Int) ≤ _); omega) | (with_reducible (show (_ : Int) < _); omega) | (with_reducible (show (_ : Nat) < _); omega) | (with_reducible (show (_ : Nat) ≤ _); omega) | with_reducible exact Or.inl rfl | with_reducible exact Or.inr rfl | with_reducible exact Or.inl trivial | with_reducible exact Or.inr trivial | (intro hz; exact absurd hz (by decide)) | (intro hz; exfalso; omega) | refine And.intro ?_ ?_ | intro _))
  exact loop (N 3).toNat 0 (by omega) _ _ rfl rfl
/-- 134 leastCostOf -/
theorem c_lco {d : Nat} {I : mj_I} {S : mj_S} {Q : mj_Q} (hS : mk_Sh S) {N : Int → Int} (hN : Inv N) (s : Int) (hs : 0 ≤ s ∧ s < N 3) (h0 : I 101 0 = N 2) (hc : ∀ p, 0 ≤ p → p < N 2 → rd I 109 (s * 7 + p) = c1 N s p)
    (h : ∀ m, 0 ≤ m → m ≤ 1000000 → (∀ p, 0 ≤ p → p < N 2 → mt (rd I 102 s) p.toNat = true → m ≤ c1 N s p) → Q (some (.inl m)) I S) : mj_C d 134 [.inr 101, .inl s] I S Q := by
  have hH := hN.1
  unfold InvH at hH
  have loop : ∀ (j : Nat) (p : Int), 0 ≤ p → p + j = N 2 → ∀ (le : Int), 0 ≤ le → le ≤ 1000000 → (∀ q, 0 ≤ q → q < p → mt (rd I 102 s) q.toNat = true → le ≤ c1 N s q) → xW d 134 4 [some (.inr (7, 0, 101, 0)), some (.inl s), some (.inl le), some (.inl p)] [] I S Q := by
    intro j
    induction j with
    | zero =>
      intro p p0 p1 le l0 l1 hl
      refine x_hd false [4] 30 ?_
      (repeat' (first | with_reducible assumption | with_reducible exact rfl | with_reducible exact trivial | (with_reducible (show (_ : Int) ≤ _); omega) | (with_reducible (show (_ : Int) < _); omega) | (with_reducible (show (_ : Nat) < _); omega) | (with_reducible (show (_ : Nat) ≤ _); omega) | with_reducible exact Or.inl rfl | with_reducible exact Or.inr rfl | with_reducible exact Or.inl trivial | with_reducible exact Or.inr trivial | (intro hz; exact absurd hz (by decide)) | (intro hz; exfalso; omega) | refine And.intro ?_ ?_ | intro _))
      exact h le l0 l1 (fun q q0 q1 => hl q q0 (by omega))
    | succ j ih =>
      intro p p0 p1 le l0 l1 hl
      have hcp := hc p p0 (by omega)
      have hcb := c1_b (N := N) (s := s) (p := p)
      have hask : mj_and (mj_shr (rd I 102 s) p) 1 = 0 ↔ mt (rd I 102 s) p.toNat = false := ask0 (by omega)
      refine x_hd false [4] 40 ?_
      (repeat' (first | rw [hcp] | with_reducible assumption | with_reducible exact rfl | with_reducible exact trivial | (with_reducible (show (_ : Int) ≤ _); omega) | (with_reducible (show (_ : Int) < _); omega) | (with_reducible (show (_ : Nat) < _); omega) | (with_reducible (show (_ : Nat) ≤ _); omega) | with_reducible exact Or.inl rfl | with_reducible exact Or.inr rfl | with_reducible exact Or.inl trivial | with_reducible exact Or.inr trivial | (intro hz; exact absurd hz (by decide)) | (intro hz; exfalso; omega) | refine And.intro ?_ ?_ | intro _))
      · rename_i z
        refine ih (p + 1) (by omega) (by omega) le l0 l1 (fun q q0 q1 hm => ?_)
        by_cases e : q = p
        · rw [e, hask.mp z] at hm
          exact absurd hm (by decide)
        · exact hl q q0 (by omega) hm
      · refine ih (p + 1) (by omega) (by omega) _ (by omega) (by omega) (fun q q0 q1 hm => ?_)
        by_cases e : q = p
        · rw [e]; omega
        · have := hl q q0 (by omega) hm
          omega
  refine x_C false [.inr (7, 0, 101, 0), .inl s] [4] 30 hS ⟨xok_fi hS, trivial, trivial⟩ ?_
  (repeat' (first | with_reducible assumption | with_reducible exact rfl | with_reducible exact trivial | (with_reducible (show (_ : Int) ≤ _); omega) | (with_reducible (show (_ : Int) < _); omega) | (with_reducible (show (_ : Nat) < _); omega) | (with_reducible (show (_ : Nat) ≤ _); omega) | with_reducible exact Or.inl rfl | with_reducible exact Or.inr rfl | with_reducible exact Or.inl trivial | with_reducible exact Or.inr trivial | (intro hz; exact absurd hz (by decide)) | (intro hz; exfalso; omega) | refine And.intro ?_ ?_ | intro _))
  exact loop (N 2).toNat 0 (by omega) (by omega) _ (by omega) (by omega) (fun q q0 q1 => by omega)
theorem bst_le {N : Int → Int} : ∀ (l : List (Int → Int)) (a : (Int → Int) × Int), (bst N l a).2 ≤ a.2
  | [], a => Int.le_refl _
  | w :: l, a => by
    unfold bst
    have := bst_le (N := N) l (if cst N w < a.2 then (w, cst N w) else a)
    split at this
    · rename_i z
      rw [if_pos z]
      have e : ((w, cst N w) : (Int → Int) × Int).2 = cst N w := rfl
      omega
    · rename_i z
      rw [if_neg z]
      exact this
/-- 133 findCheapest -/
theorem c_findCheapest {d : Nat} {I : mj_I} {S : mj_S} {Q : mj_Q} (hS : mk_Sh S) {N : Int → Int} {day : Int} (hN : Inv N) (hO : OS N day I) (hc : ∀ s p, 0 ≤ s → s < N 3 → 0 ≤ p → p < N 2 → rd I 109 (s * 7 + p) = c1 N s p) (hd : 10 < d)
    (hT : ∀ J v l, fr (fun a => a = 101 ∨ a = 103 ∨ a = 108 ∨ a = 110 ∨ a = 111) I J → J 101 1 = N 3 → allW N (abB N z0 day 0) = v :: l → (∀ q, 0 ≤ q → q < N 3 → rd J 111 q = (bst N l (v, cst N v)).1 q) → Q (some (.inl 1)) J S) (hE : ∀ J, fr (fun a => a = 101 ∨ a = 103 ∨ a = 108 ∨ a = 110 ∨ a = 111) I J → allW N (abB N z0 day 0) = [] → Q (some (.inl 0)) J S) : mj_C d 133 [.inr 101] I S Q := by
  have hH := hN.1
  unfold InvH at hH
  have fin : ∀ (J K : mj_I), fr (fun a => a = 103) I J → SR N (abB N z0 day 0) J nb 0 → fr (fun a => a = 110) J K → rd K 110 (N 3) = 0 → (∀ u, 0 ≤ u → u ≤ N 3 → 0 ≤ rd K 110 u ∧ rd K 110 u ≤ 6000000) → (∀ u p, 0 ≤ u → u < N 3 → 0 ≤ p → p < N 2 → abB N z0 day 0 u p = true → rd K 110 u ≤ rd K 110 (u + 1) + c1 N u p) → ∀ w, xW d 133 33 [some (.inr (7, 0, 101, 0)), w] [] K S Q := by
    intro J K hJ hSR hK t0 tb tt w
    have hOJ : OS N day J := hO.fr (hJ.mo (fun a q => Or.inl q))
    have f1 : fr (fun a => a = 101 ∨ a = 110) J (mj_up K 101 14 1000000) := (hK.mo (Y := fun a => a = 101 ∨ a = 110) (fun a q => Or.inr q)).mu (by omega) _ _
    have g1 : ∀ k, k ≠ 14 → (mj_up K 101 14 1000000) 101 k = J 101 k := fun k hk => by rw [mu_f (by omega), hK.f (by omega)]
    have r110 : rd (mj_up K 101 14 1000000) 110 = rd K 110 := rd_mu (by omega)
    have g14 : (mj_up K 101 14 1000000) 101 14 = 1000000 := mj_up_s
    generalize hAe : mj_up K 101 14 1000000 = A at *
    have hFA : FO N A := ⟨by rw [g1 0 (by omega)]; exact hOJ.1.1, by rw [g1 1 (by omega)]; exact hOJ.1.2.1, hOJ.1.2.2.e (g1 _ (by omega)) (g1 _ (by omega)) (f1.r (by omega)) (f1.r (by omega)) (f1.r (by omega)) (f1.r (by omega))⟩
    have hSA : SR N (abB N z0 day 0) A nb 0 := by
      unfold SR at hSR ⊢
      rw [f1.r (a := 103) (by omega), f1.r (a := 108) (by omega)]
      exact hSR
    have hcA : ∀ s p, 0 ≤ s → s < N 3 → 0 ≤ p → p < N 2 → rd A 109 (s * 7 + p) = c1 N s p := by rw [f1.r (by omega), hJ.r (by omega)]; exact hc
    have hfr : ∀ B, sG 0 A B → fr (fun a => a = 101 ∨ a = 103 ∨ a = 108 ∨ a = 110 ∨ a = 111) I B := fun B hB => ((hJ.mo (fun a q => by omega)).tr (f1.mo (fun a q => by omega))).tr (hB.1.mo (fun a q => by omega))
    refine x_hd false [] 30 ?_
    (repeat' (first | rw [hAe] | refine c_cheap hN hS (T := rd K 110) (B := abB N z0 day 0) t0 tb tt (N 3).toNat 0 nb (rd A 111, 1000000) 0 (by omega) hFA (by omega) (by omega) (fun q q0 q1 => by omega) hSA ⟨fun s _ _ => by rw [r110], hcA⟩ ⟨g14, by show (0 : Int) ≤ 1000000 ∧ (1000000 : Int) ≤ 1000000; omega, fun q _ _ => rfl⟩ rfl ?_ | with_reducible assumption | with_reducible exact rfl | with_reducible exact trivial | (with_reducible (show (_ : Int) ≤ _); omega) | (with_reducible (show (_ : Int) < _); omega) | (with_reducible (show (_ : Nat) < _); omega) | (with_reducible (show (_ : Nat) ≤ _); omega) | with_reducible exact Or.inl rfl | with_reducible exact Or.inr rfl | with_reducible exact Or.inl trivial | with_reducible exact Or.inr trivial | (intro hz; exact absurd hz (by decide)) | (intro hz; exfalso; omega) | refine And.intro ?_ ?_ | intro _))
    · rename_i B hB hBS z
      refine hE B (hfr B hB) ?_
      have e14 := hBS.1
      cases hw : wl N (abB N z0 day 0) (N 3).toNat 0 nb with
      | nil => exact hw
      | cons v l =>
        exfalso
        rw [hw] at e14
        have eb : bst N (v :: l) (rd A 111, 1000000) = bst N l (if cst N v < 1000000 then (v, cst N v) else (rd A 111, 1000000)) := rfl
        have hcv := cst_b (N := N) (W := v) (by omega)
        rw [eb, if_pos (by omega)] at e14
        have := bst_le (N := N) l (v, cst N v)
        have e2 : ((v, cst N v) : (Int → Int) × Int).2 = cst N v := rfl
        omega
    · rename_i B hB hBS z
      have e14 := hBS.1
      cases hw : wl N (abB N z0 day 0) (N 3).toNat 0 nb with
      | nil =>
        exfalso
        rw [hw] at e14
        have e2 : (bst N [] (rd A 111, 1000000)).2 = 1000000 := rfl
        omega
      | cons v l =>
        have eb : bst N (v :: l) (rd A 111, 1000000) = bst N l (if cst N v < 1000000 then (v, cst N v) else (rd A 111, 1000000)) := rfl
        have hcv := cst_b (N := N) (W := v) (by omega)
        rw [hw, eb, if_pos (by omega)] at hBS
        exact hT B v l (hfr B hB) (by rw [hB.2.1 1 (by omega)]; exact hFA.2.1) hw hBS.2.2
  have loop : ∀ (J : mj_I), fr (fun a => a = 103) I J → SR N (abB N z0 day 0) J nb 0 → ∀ (m : Nat) (K : mj_I) (ss : Int), ss = (m : Int) - 1 → (m : Int) ≤ N 3 → fr (fun a => a = 110) J K → rd K 110 (N 3) = 0 → (∀ u : Int, m ≤ u → u ≤ N 3 → 0 ≤ rd K 110 u ∧ rd K 110 u ≤ 1000000 * (N 3 - u)) → (∀ u p : Int, m ≤ u → u < N 3 → 0 ≤ p → p < N 2 → abB N z0 day 0 u p = true → rd K 110 u ≤ rd K 110 (u + 1) + c1 N u p) → xW d 133 15 [some (.inr (7, 0, 101, 0)), some (.inl ss)] [] K S Q := by
    intro J hJ hSR m
    have hOJ : OS N day J := hO.fr (hJ.mo (fun a q => Or.inl q))
    induction m with
    | zero =>
      intro K ss hs hm hK t0 tb tt
      refine x_hd false [15, 33] 30 ?_
      (repeat' (first | with_reducible assumption | with_reducible exact rfl | with_reducible exact trivial | (with_reducible (show (_ : Int) ≤ _); omega) | (with_reducible (show (_ : Int) < _); omega) | (with_reducible (show (_ : Nat) < _); omega) | (with_reducible (show (_ : Nat) ≤ _); omega) | with_reducible exact Or.inl rfl | with_reducible exact Or.inr rfl | with_reducible exact Or.inl trivial | with_reducible exact Or.inr trivial | (intro hz; exact absurd hz (by decide)) | (intro hz; exfalso; omega) | refine And.intro ?_ ?_ | intro _))
      exact fin J K hJ hSR hK t0 (fun u u0 u1 => by have := tb u (by omega) u1; omega) (fun u p u0 => tt u p (by omega)) _
    | succ m ih =>
      intro K ss hs hm hK t0 tb tt
      have k0 : K 101 0 = N 2 := by rw [hK.f (by omega)]; exact hOJ.1.1
      have hcK : ∀ p, 0 ≤ p → p < N 2 → rd K 109 (ss * 7 + p) = c1 N ss p := by rw [hK.r (by omega), hJ.r (by omega)]; exact fun p p0 p1 => hc ss p (by omega) (by omega) p0 p1
      have k2 : rd K 102 ss = cdS N day ss := by rw [hK.r (by omega)]; exact hOJ.2.1 ss (by omega) (by omega)
      have htb := tb (ss + 1) (by omega) (by omega)
      refine x_hd false [15, 33] 40 ?_
      (repeat' (first | refine c_lco hS hN _ ?_ k0 hcK ?_ | with_reducible assumption | with_reducible exact rfl | with_reducible exact trivial | (with_reducible (show (_ : Int) ≤ _); omega) | (with_reducible (show (_ : Int) < _); omega) | (with_reducible (show (_ : Nat) < _); omega) | (with_reducible (show (_ : Nat) ≤ _); omega) | with_reducible exact Or.inl rfl | with_reducible exact Or.inr rfl | with_reducible exact Or.inl trivial | with_reducible exact Or.inr trivial | (intro hz; exact absurd hz (by decide)) | (intro hz; exfalso; omega) | refine And.intro ?_ ?_ | intro _))
      · rename_i z y y0 y1 hy
        refine ih _ (ss + -1) (by omega) (by omega) (hK.up rfl _ _) ?_ (fun u u0 u1 => ?_) (fun u p u0 u1 p0 p1 hB => ?_)
        · rw [rd_up (by omega) (by omega), ru_n (by omega)]
          exact t0
        · rw [rd_up (by omega) (by omega)]
          by_cases e : u = ss
          · rw [e, ru_s]
            omega
          · rw [ru_n e]
            exact tb u (by omega) u1
        · rw [rd_up (by omega) (by omega)]
          by_cases e : u = ss
          · subst e
            rw [ru_s, ru_n (by omega)]
            have := hy p p0 p1 (by rw [k2, cdS_t hN (by omega) ⟨p0, p1⟩]; exact hB)
            omega
          · rw [ru_n e, ru_n (by omega)]
            exact tt u p (by omega) u1 p0 p1 hB
  refine x_C false [.inr (7, 0, 101, 0)] [15] 30 hS ⟨xok_fi hS, trivial⟩ ?_
  have hj1 : ∀ J, fr (fun a => a = 103) I J → J 101 1 = N 3 := fun J hJ => by rw [hJ.f (by omega)]; exact hO.1.2.1
  (repeat' (first | refine c_leave hS hN hO _ _ ?_ ?_ | with_reducible assumption | with_reducible exact rfl | with_reducible exact trivial | (with_reducible (show (_ : Int) ≤ _); omega) | (with_reducible (show (_ : Int) < _); omega) | (with_reducible (show (_ : Nat) < _); omega) | (with_reducible (show (_ : Nat) ≤ _); omega) | with_reducible exact Or.inl rfl | with_reducible exact Or.inr rfl | with_reducible exact Or.inl trivial | with_reducible exact Or.inr trivial | (intro hz; exact absurd hz (by decide)) | (intro hz; exfalso; omega) | refine And.intro ?_ ?_ | intro _))
  · rename_i J hJ hl
    have := hj1 J hJ
    omega
  · rename_i J hJ hl
    have := hj1 J hJ
    omega
  · rename_i J hJ hl
    have := hj1 J hJ
    rw [up_f (by omega)]
    omega
  · rename_i J hJ hl
    have := hj1 J hJ
    rw [up_f (by omega)]
    omega
  · rename_i J hJ hl
    have e1 := hj1 J hJ
    have hSR : SR N (abB N z0 day 0) J nb 0 := lv_SR hN hl (fun s p s0 s1 p0 p1 => by
      rw [show (if N (64 + 4 * s + 3) < 0 then (0 : Int) else 0) = 0 by split <;> rfl, mt_0]
      simp)
    refine loop J hJ hSR (N 3).toNat _ _ (by rw [up_f (by omega)]; omega) (by omega) ((fr.refl (X := fun a => a = 110)).up rfl _ _) ?_ (fun u u0 u1 => ?_) (fun u p u0 u1 => by omega)
    · rw [e1, rd_up (by omega) (by omega), ru_s]
    · rw [e1, rd_up (by omega) (by omega), show u = N 3 by omega, ru_s]
      omega
/-- 141 leaveTo -/
theorem c_leaveTo {d : Nat} {I : mj_I} {S : mj_S} {Q : mj_Q} (hS : mk_Sh S) {N : Int → Int} {day : Int} (hN : Inv N) (hO : OS N day I) (x p : Int) (hp : 0 ≤ p ∧ p < N 2)
    (h : ∀ J, fr (fun a => a = 103) I J → SR N (fun s q => abB N z0 day 0 s q && (!(mt x s.toNat) || decide (q = p))) J nb 0 → Q none J S) : mj_C d 141 [.inr 101, .inl x, .inl p] I S Q := by
  have hH := hN.1
  unfold InvH at hH
  have loop : ∀ (m : Nat) (s : Int), 0 ≤ s → s + m = N 3 → ∀ (J : mj_I), fr (fun a => a = 103) I J → (∀ u, 0 ≤ u → u < s → rd J 103 u = if mt x u.toNat = true then mj_and (cdS N day u) (mj_shl 1 p) else cdS N day u) → xW d 141 2 [some (.inr (7, 0, 101, 0)), some (.inl x), some (.inl p), some (.inl s)] [] J S Q := by
    intro m
    induction m with
    | zero =>
      intro s s0 s1 J hJ h1
      have j1 : J 101 1 = N 3 := by rw [hJ.f (by omega)]; exact hO.1.2.1
      refine x_hd false [2] 30 ?_
      (repeat' (first | with_reducible assumption | with_reducible exact rfl | with_reducible exact trivial | (with_reducible (show (_ : Int) ≤ _); omega) | (with_reducible (show (_ : Int) < _); omega) | (with_reducible (show (_ : Nat) < _); omega) | (with_reducible (show (_ : Nat) ≤ _); omega) | with_reducible exact Or.inl rfl | with_reducible exact Or.inr rfl | with_reducible exact Or.inl trivial | with_reducible exact Or.inr trivial | (intro hz; exact absurd hz (by decide)) | (intro hz; exfalso; omega) | refine And.intro ?_ ?_ | intro _))
      refine h J hJ (SR_0 (fun t t0 t1 => ?_))
      rw [h1 t t0 (by omega)]
      split
      · rename_i z
        refine ⟨mtn_and (cdS_n hN ⟨t0, t1⟩), fun q q0 q1 => ?_⟩
        show _ ↔ (abB N z0 day 0 t q && (!(mt x t.toNat) || decide (q = p))) = true
        rw [mt_and, cdS_t hN ⟨t0, t1⟩ ⟨q0, q1⟩, mt_one (by omega) (by omega), z, show decide (((q.toNat : Nat) : Int) = p) = decide (q = p) by rw [show ((q.toNat : Nat) : Int) = q by omega]]
        simp
      · rename_i z
        refine ⟨cdS_n hN ⟨t0, t1⟩, fun q q0 q1 => ?_⟩
        show _ ↔ (abB N z0 day 0 t q && (!(mt x t.toNat) || decide (q = p))) = true
        rw [cdS_t hN ⟨t0, t1⟩ ⟨q0, q1⟩, Bool.eq_false_iff.mpr z]
        simp
    | succ m ih =>
      intro s s0 s1 J hJ h1
      have j1 : J 101 1 = N 3 := by rw [hJ.f (by omega)]; exact hO.1.2.1
      have j2 : rd J 102 s = cdS N day s := by rw [hJ.r (by omega)]; exact hO.2.1 s s0 (by omega)
      have hask : mj_and (mj_shr x s) 1 = 0 ↔ mt x s.toNat = false := ask0 (by omega)
      have nxt : ∀ z, z = (if mt x s.toNat = true then mj_and (cdS N day s) (mj_shl 1 p) else cdS N day s) → xW d 141 2 [some (.inr (7, 0, 101, 0)), some (.inl x), some (.inl p), some (.inl (s + 1))] [] (up J 103 s z) S Q := by
        intro z hz
        refine ih (s + 1) (by omega) (by omega) _ (hJ.up rfl _ _) (fun u u0 u1 => ?_)
        rw [rd_up (by omega) (by omega)]
        by_cases e : u = s
        · rw [e, ru_s, hz]
        · rw [ru_n e]; exact h1 u u0 (by omega)
      refine x_hd false [2] 40 ?_
      (repeat' (first | rw [j2] | with_reducible assumption | with_reducible exact rfl | with_reducible exact trivial | (with_reducible (show (_ : Int) ≤ _); omega) | (with_reducible (show (_ : Int) < _); omega) | (with_reducible (show (_ : Nat) < _); omega) | (with_reducible (show (_ : Nat) ≤ _); omega) | with_reducible exact Or.inl rfl | with_reducible exact Or.inr rfl | with_reducible exact Or.inl trivial | with_reducible exact Or.inr trivial | (intro hz; exact absurd hz (by decide)) | (intro hz; exfalso; omega) | refine And.intro ?_ ?_ | intro _))
      · rename_i z
        exact nxt _ (by rw [hask.mp z, if_neg (by decide)])
      · rename_i z
        refine nxt _ ?_
        cases e : mt x s.toNat with
        | true => rw [if_pos rfl]
        | false => exact absurd (hask.mpr e) z
  refine x_C false [.inr (7, 0, 101, 0), .inl x, .inl p] [2] 30 hS ⟨xok_fi hS, trivial, trivial, trivial⟩ ?_
  (repeat' (first | with_reducible assumption | with_reducible exact rfl | with_reducible exact trivial | (with_reducible (show (_ : Int) ≤ _); omega) | (with_reducible (show (_ : Int) < _); omega) | (with_reducible (show (_ : Nat) < _); omega) | (with_reducible (show (_ : Nat) ≤ _); omega) | with_reducible exact Or.inl rfl | with_reducible exact Or.inr rfl | with_reducible exact Or.inl trivial | with_reducible exact Or.inr trivial | (intro hz; exact absurd hz (by decide)) | (intro hz; exfalso; omega) | refine And.intro ?_ ?_ | intro _))
  exact loop (N 3).toNat 0 (by omega) (by omega) _ fr.refl (fun u u0 u1 => by omega)
