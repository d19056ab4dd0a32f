/-! papers -/
def ppN (N : Int → Int) (v : Int) (b : Int → Int) : Nat → Int → Int
  | 0 => N
  | k + 1 => ru (ppN N v b k) (8 + 8 * v + 3) (pset (ppN N v b k (8 + 8 * v + 3)) k (b k))
def ppC (N : Int → Int) (v : Int) (b : Int → Int) : Nat → Int
  | 0 => 0
  | k + 1 => ppC N v b k + (if pset (ppN N v b k (8 + 8 * v + 3)) k (b k) ≠ ppN N v b k (8 + 8 * v + 3) then 1 else 0)
theorem ppC_b (N : Int → Int) (v : Int) (b : Int → Int) : ∀ k : Nat, 0 ≤ ppC N v b k ∧ ppC N v b k ≤ k
  | 0 => ⟨Int.le_refl 0, Int.le_refl 0⟩
  | k + 1 => by
    have := ppC_b N v b k
    unfold ppC
    split <;> omega
theorem ppN_2 (N : Int → Int) {v : Int} (hv : 0 ≤ v) (b : Int → Int) : ∀ k : Nat, ppN N v b k 2 = N 2
  | 0 => rfl
  | k + 1 => by
    show ru _ _ _ 2 = N 2
    rw [ru_n (by omega)]
    exact ppN_2 N hv b k
theorem P_papers {L : Nat} {xs : Nat → Int32} {n : Nat} (v s : Int) : Pair L xs n 174 285 [.inl v, .inl s] := by
  intro I S hn hR
  have hR0 := hR
  obtain ⟨hS, hO, ⟨hN, hCb⟩, hI, hTp, hWt, hSh, hSl, hMo, hCa, hBd⟩ := hR
  have hH := hN.1
  have hCH := hCb.1
  have hb : mB 21 := Or.inl rfl
  unfold InvH at hH
  unfold CbH at hCH
  by_cases hv : (0 ≤ v ∧ v < rd I 151 2) ∧ (0 ≤ s ∧ s ≤ 3)
  · obtain ⟨q1, q2, q3, q4, q5⟩ := hSh s (by omega) (by omega)
    obtain ⟨o1, o2, o3⟩ := ok_sh hS hv.2
    by_cases hm1 : rd I 172 s = -1
    · refine pair_no hn hR0 (-1000000011) (fun Q h => ?_) (fun Q h => ?_)
      · refine x_C false [.inr (1, 0, 20, 0), .inl v, .inl s] [] 40 hS ⟨xok_w hS, trivial, trivial, trivial⟩ ?_
        (repeat' (first | refine c_hasPerson hS hb _ ?_ ?_ ?_ ?_ | refine c_isSheet _ ?_ ?_ ?_ | with_reducible assumption | with_reducible exact rfl | with_reducible exact trivial | (with_reducible (show (_ : Int) ≤ _); omega) | (with_reducible (show (_ : Int) < _); omega) | (with_reducible (show (_ : Nat) < _); omega) | (with_reducible (show (_ : Nat) ≤ _); omega) | with_reducible exact Or.inl rfl | with_reducible exact Or.inr rfl | with_reducible exact Or.inl trivial | with_reducible exact Or.inr trivial | (intro hz; exact absurd hz (by decide)) | (intro hz; exfalso; omega) | refine And.intro ?_ ?_ | intro _))
        all_goals exact h
      · refine x_C false [.inr (13, 0, 150, 0), .inl v, .inl s] [] 40 hS ⟨xok_m hS, trivial, trivial, trivial⟩ ?_
        (repeat' (first | refine m_isPerson hS _ ?_ ?_ ?_ ?_ | refine m_isSheet _ ?_ ?_ ?_ | with_reducible assumption | with_reducible exact rfl | with_reducible exact trivial | (with_reducible (show (_ : Int) ≤ _); omega) | (with_reducible (show (_ : Int) < _); omega) | (with_reducible (show (_ : Nat) < _); omega) | (with_reducible (show (_ : Nat) ≤ _); omega) | with_reducible exact Or.inl rfl | with_reducible exact Or.inr rfl | with_reducible exact Or.inl trivial | with_reducible exact Or.inr trivial | (intro hz; exact absurd hz (by decide)) | (intro hz; exfalso; omega) | refine And.intro ?_ ?_ | intro _))
        all_goals exact h
    · have hb2 : ∃ bb : Int → Int, bb = fun k => if rd I 174 (24 * s + k) = 0 then 0 else 1 := ⟨_, rfl⟩
      obtain ⟨bb, hbb⟩ := hb2
      have hbk : ∀ k : Int, bb k = if rd I 174 (24 * s + k) = 0 then 0 else 1 := fun k => by rw [hbb]
      generalize hN0 : rd I 151 = N at *
      have hm : ∃ m : Nat, (m : Int) = min 8 (rd I 173 s) := ⟨(min 8 (rd I 173 s)).toNat, by omega⟩
      obtain ⟨m, hm⟩ := hm
      have key : ∀ k : Nat, k < 8 → ∀ J, Cb J S 21 (ppN N v bb k) → Inv (ppN N v bb k) → Inv (ppN N v bb (k + 1)) ∧ Cb (mj_up J (21 + 15 + v.toNat) 3 (pset (ppN N v bb k (8 + 8 * v + 3)) k (bb k))) S 21 (ppN N v bb (k + 1)) := by
        intro k hk J hC hI2
        have g2 := ppN_2 N hv.1.1 bb k
        exact mu_paper hI2 hC (bb k) (w := k) ⟨⟨hv.1.1, by omega⟩, by omega, by omega⟩
      have inv : ∀ k : Nat, k ≤ 8 → Inv (ppN N v bb k) := by
        intro k hk
        have : ∃ J, Inv (ppN N v bb k) ∧ Cb J S 21 (ppN N v bb k) := by
          induction k with
          | zero => exact ⟨I, hN, hCb⟩
          | succ k ih =>
            obtain ⟨J, a, b⟩ := ih (by omega)
            exact ⟨_, key k (by omega) J b a⟩
        exact this.elim (fun _ q => q.1)
      have cl : ∀ Q : mj_Q, (∀ K, fr bk I K → (m = 0 → K = I) → Cb K S 21 (ppN N v bb m) → Q (some (.inl (ppC N v bb m))) K S) → mj_C 400 174 (.inr 20 :: [.inl v, .inl s]) I S Q := by
        intro Q h
        have loop : ∀ x k : Nat, k + x = m → ∀ (a kk : Int) (J : mj_I), kk = k → a = ppC N v bb k → fr bk I J → (k = 0 → J = I) → Cb J S 21 (ppN N v bb k) →
            xW 400 174 30 [some (.inr (1, 0, 20, 0)), some (.inl v), some (.inl s), some (.inr (10, 0, 122 + 2 * s.toNat, 0)), some (.inl a), some (.inl (m : Int)), some (.inl kk)] [] J S Q := by
          intro x
          induction x with
          | zero =>
            intro k hk a kk J h1 h2 h3 h5 h4
            have e : k = m := by omega
            subst e
            refine x_hd false [30] 40 ?_
            (repeat' (first | with_reducible assumption | with_reducible exact rfl | with_reducible exact trivial | (with_reducible (show (_ : Int) ≤ _); omega) | (with_reducible (show (_ : Int) < _); omega) | (with_reducible (show (_ : Nat) < _); omega) | (with_reducible (show (_ : Nat) ≤ _); omega) | with_reducible exact Or.inl rfl | with_reducible exact Or.inr rfl | with_reducible exact Or.inl trivial | with_reducible exact Or.inr trivial | (intro hz; exact absurd hz (by decide)) | (intro hz; exfalso; omega) | refine And.intro ?_ ?_ | intro _))
            exact Qe (h J h3 h5 h4) h2.symm
          | succ x ih =>
            intro k hk a kk J h1 h2 h3 h5 h4
            subst h1
            have hpb := ppC_b N v bb k
            have g2 := ppN_2 N hv.1.1 bb k
            have er : rd J (122 + 2 * s.toNat + 1) k = rd I 174 (24 * s + k) := by
              rw [rd_oo (h3 (122 + 2 * s.toNat + 1) (by unfold bk scr; omega))]
              exact q5 k (by omega) (by omega)
            have ep : J (21 + 15 + v.toNat) 3 = ppN N v bb k (8 + 8 * v + 3) := (h4.2.1 v hv.1.1 (by omega)).2.2.2.1
            have fin : ∀ h0 : Int, h0 = bb k → ∀ y : Int, y = ppC N v bb (k + 1) → xW 400 174 30 [some (.inr (1, 0, 20, 0)), some (.inl v), some (.inl s), some (.inr (10, 0, 122 + 2 * s.toNat, 0)), some (.inl y), some (.inl (m : Int)), some (.inl ((k : Int) + 1))] [] (mj_up J (21 + 15 + v.toNat) 3 (pset (J (21 + 15 + v.toNat) 3) k h0)) S Q := by
              intro h0 e0 y ey
              refine ih (k + 1) (by omega) _ _ _ (by omega) ey (h3.mu (by unfold bk; omega) _ _) (fun z => by omega) ?_
              rw [ep, e0]
              exact (key k (by omega) J h4 (inv k (by omega))).2
            refine x_hd false [30] 40 ?_
            (repeat' (first | rw [er] | refine c_setPaper hS _ _ _ (tg_P hS hb (by omega) (by omega)) ?_ ?_ | refine c_oneIf _ ?_ ?_ | with_reducible assumption | with_reducible exact rfl | with_reducible exact trivial | (with_reducible (show (_ : Int) ≤ _); omega) | (with_reducible (show (_ : Int) < _); omega) | (with_reducible (show (_ : Nat) < _); omega) | (with_reducible (show (_ : Nat) ≤ _); omega) | with_reducible exact Or.inl rfl | with_reducible exact Or.inr rfl | with_reducible exact Or.inl trivial | with_reducible exact Or.inr trivial | (intro hz; exact absurd hz (by decide)) | (intro hz; exfalso; omega) | refine And.intro ?_ ?_ | intro _))
            · rename_i z0 z _
              have e0 : (0 : Int) = bb k := by rw [hbk, if_pos z0]
              rw [ep, e0] at z
              exact fin 0 e0 _ (by unfold ppC; rw [if_pos z, h2])
            · rename_i z0 z _
              have e0 : (0 : Int) = bb k := by rw [hbk, if_pos z0]
              rw [ep, e0] at z
              exact fin 0 e0 _ (by unfold ppC; rw [if_neg (fun q => q z), h2])
            · rename_i z0 z _
              have e0 : (1 : Int) = bb k := by rw [hbk, if_neg z0]
              rw [ep, e0] at z
              exact fin 1 e0 _ (by unfold ppC; rw [if_pos z, h2])
            · rename_i z0 z _
              have e0 : (1 : Int) = bb k := by rw [hbk, if_neg z0]
              rw [ep, e0] at z
              exact fin 1 e0 _ (by unfold ppC; rw [if_neg (fun q => q z), h2])
        have em : min 8 (I (122 + 2 * s.toNat) 1) = m := by omega
        refine x_C false [.inr (1, 0, 20, 0), .inl v, .inl s] [30] 60 hS ⟨xok_w hS, trivial, trivial, trivial⟩ ?_
        (repeat' (first | rw [em] | refine c_hasPerson hS hb _ ?_ ?_ ?_ ?_ | refine c_isSheet _ ?_ ?_ ?_ | with_reducible assumption | with_reducible exact rfl | with_reducible exact trivial | (with_reducible (show (_ : Int) ≤ _); omega) | (with_reducible (show (_ : Int) < _); omega) | (with_reducible (show (_ : Nat) < _); omega) | (with_reducible (show (_ : Nat) ≤ _); omega) | with_reducible exact Or.inl rfl | with_reducible exact Or.inr rfl | with_reducible exact Or.inl trivial | with_reducible exact Or.inr trivial | (intro hz; exact absurd hz (by decide)) | (intro hz; exfalso; omega) | refine And.intro ?_ ?_ | intro _))
        have lp := loop m 0 (by omega) _ _ _ rfl rfl fr.refl (fun _ => rfl) hCb
        rw [← em] at lp
        exact lp
      have mo : ∀ (K : mj_I) (Q : mj_Q), rd K 151 = N → K 150 = I 150 → (∀ a, 61 ≤ a → ¬ scr a → K a = I a) → (∀ J, fr mk5 K J → (m = 0 → J = K) → rd J 151 = ppN N v bb m → (∀ j, j ≠ 4 → J 150 j = K 150 j) → J 150 4 = K 150 4 + m → Q (some (.inl (ppC N v bb m))) J S) → mj_C 400 285 (.inr 150 :: [.inl v, .inl s]) K S Q := by
        intro K Q h151 h150 hK61 h
        unfold RBd at hBd
        have e150 : K 150 4 = I 150 4 := by rw [h150]
        have w2 : rd K 172 = rd I 172 := rd_oo (hK61 172 (by omega) (by unfold scr; omega))
        have w3 : rd K 173 = rd I 173 := rd_oo (hK61 173 (by omega) (by unfold scr; omega))
        have w4 : rd K 174 = rd I 174 := rd_oo (hK61 174 (by omega) (by unfold scr; omega))
        have loop : ∀ x k : Nat, k + x = m → ∀ (a kk : Int) (J : mj_I), kk = k → a = ppC N v bb k → (∀ c, ¬ c = 150 → ¬ c = 151 → J c = K c) → (k = 0 → J = K) → rd J 151 = ppN N v bb k → (∀ j, j ≠ 4 → J 150 j = K 150 j) → J 150 4 = K 150 4 + k →
            xW 400 285 20 [some (.inr (13, 0, 150, 0)), some (.inl v), some (.inl s), some (.inl a), some (.inl kk)] [] J S Q := by
          intro x
          induction x with
          | zero =>
            intro k hk a kk J h1 h2 h3 h4 h5 h6 h7
            have e : k = m := by omega
            subst e
            have w3J : rd J 173 = rd I 173 := by rw [rd_oo (h3 173 (by omega) (by omega)), w3]
            refine x_hd false [20] 40 ?_
            (repeat' (first | rw [w3J] | with_reducible assumption | with_reducible exact rfl | with_reducible exact trivial | (with_reducible (show (_ : Int) ≤ _); omega) | (with_reducible (show (_ : Int) < _); omega) | (with_reducible (show (_ : Nat) < _); omega) | (with_reducible (show (_ : Nat) ≤ _); omega) | with_reducible exact Or.inl rfl | with_reducible exact Or.inr rfl | with_reducible exact Or.inl trivial | with_reducible exact Or.inr trivial | (intro hz; exact absurd hz (by decide)) | (intro hz; exfalso; omega) | refine And.intro ?_ ?_ | intro _))
            all_goals exact Qe (h J (fun c hc => h3 c (by unfold mk5 at hc; omega) (by unfold mk5 at hc; omega)) h4 h5 h6 h7) h2.symm
          | succ x ih =>
            intro k hk a kk J h1 h2 h3 h4 h5 h6 h7
            subst h1
            have hpb := ppC_b N v bb k
            have w3J : rd J 173 = rd I 173 := by rw [rd_oo (h3 173 (by omega) (by omega)), w3]
            have w4J : rd J 174 = rd I 174 := by rw [rd_oo (h3 174 (by omega) (by omega)), w4]
            have fin : ∀ h0 : Int, h0 = bb k → ∀ A : mj_I, A = mj_up (up J 151 (8 + 8 * v + 3) (pset (rd J 151 (8 + 8 * v + 3)) k h0)) 150 4 (J 150 4 + 1) → ∀ y : Int, y = ppC N v bb (k + 1) → xW 400 285 20 [some (.inr (13, 0, 150, 0)), some (.inl v), some (.inl s), some (.inl y), some (.inl ((k : Int) + 1))] [] A S Q := by
              intro h0 e0 A eA y ey
              subst eA
              refine ih (k + 1) (by omega) _ _ _ (by omega) ey (fun c q1 q2 => by rw [mu_o q1, up_o q2]; exact h3 c q1 q2) (fun z => by omega) ?_ (fun j hj => by rw [mu_f (by omega), up_f (by decide)]; exact h6 j hj) (by rw [mj_up_s, h7]; omega)
              rw [rd_mu (by decide), rd_up (by omega) (by omega), h5, e0]
              rfl
            have ey : ∀ h0 : Int, h0 = bb k → a + (if pset (rd J 151 (8 + 8 * v + 3)) k h0 ≠ rd J 151 (8 + 8 * v + 3) then 1 else 0) = ppC N v bb (k + 1) := by
              intro h0 e0
              unfold ppC
              rw [h5, e0, h2]
            have hyb : ∀ h0 : Int, 0 ≤ (if pset (rd J 151 (8 + 8 * v + 3)) k h0 ≠ rd J 151 (8 + 8 * v + 3) then (1 : Int) else 0) ∧ (if pset (rd J 151 (8 + 8 * v + 3)) k h0 ≠ rd J 151 (8 + 8 * v + 3) then (1 : Int) else 0) ≤ 1 := by
              intro h0
              split <;> omega
            have hyb0 := hyb 0
            have hyb1 := hyb 1
            refine x_hd false [20] 40 ?_
            (repeat' (first | rw [w3J] | rw [w4J] | refine m_has hS _ _ _ ?_ ?_ ?_ | with_reducible assumption | with_reducible exact rfl | with_reducible exact trivial | (with_reducible (show (_ : Int) ≤ _); omega) | (with_reducible (show (_ : Int) < _); omega) | (with_reducible (show (_ : Nat) < _); omega) | (with_reducible (show (_ : Nat) ≤ _); omega) | with_reducible exact Or.inl rfl | with_reducible exact Or.inr rfl | with_reducible exact Or.inl trivial | with_reducible exact Or.inr trivial | (intro hz; exact absurd hz (by decide)) | (intro hz; exfalso; omega) | refine And.intro ?_ ?_ | intro _))
            · rename_i z0 A hA
              have e0 : (0 : Int) = bb k := by rw [hbk, if_pos z0]
              exact fin 0 e0 A hA _ (ey 0 e0)
            · rename_i z0 A hA
              have e0 : (1 : Int) = bb k := by rw [hbk, if_neg z0]
              exact fin 1 e0 A hA _ (ey 1 e0)
        refine x_C false [.inr (13, 0, 150, 0), .inl v, .inl s] [20] 60 hS ⟨xok_m hS, trivial, trivial, trivial⟩ ?_
        (repeat' (first | rw [h151] | rw [w2] | refine m_isPerson hS _ ?_ ?_ ?_ ?_ | refine m_isSheet _ ?_ ?_ ?_ | with_reducible assumption | with_reducible exact rfl | with_reducible exact trivial | (with_reducible (show (_ : Int) ≤ _); omega) | (with_reducible (show (_ : Int) < _); omega) | (with_reducible (show (_ : Nat) < _); omega) | (with_reducible (show (_ : Nat) ≤ _); omega) | with_reducible exact Or.inl rfl | with_reducible exact Or.inr rfl | with_reducible exact Or.inl trivial | with_reducible exact Or.inr trivial | (intro hz; exact absurd hz (by decide)) | (intro hz; exfalso; omega) | refine And.intro ?_ ?_ | intro _))
        exact loop m 0 (by omega) _ _ _ rfl rfl (fun c _ _ => rfl) (fun _ => rfl) h151 (fun _ _ => rfl) (by omega)
      by_cases hm0 : m = 0
      · refine pair_no hn hR0 (ppC N v bb m) (fun Q h => cl Q (fun K _ hKI _ => ?_)) (fun Q h => mo I Q hN0 rfl (fun _ _ _ => rfl) (fun J _ hJI _ _ _ => ?_))
        · rw [hKI hm0]
          exact h
        · rw [hJI hm0]
          exact h
      · exact pair_mu hn hR0 (ppC N v bb m) (ppN N v bb m) (inv m (by omega)) m (by omega) (fun Q h => cl Q (fun K hK _ hC => h K hK hC)) (fun K Q h151 h150 hK61 h => mo K Q (by rw [h151, hN0]) h150 hK61 (fun J hJ _ h1 h2 h3 => h J hJ h1 h2 h3))
  · refine pair_no hn hR0 (-1000000001) (fun Q h => ?_) (fun Q h => ?_)
    · refine x_C false [.inr (1, 0, 20, 0), .inl v, .inl s] [] 40 hS ⟨xok_w hS, trivial, trivial, trivial⟩ ?_
      (repeat' (first | refine c_hasPerson hS hb _ ?_ ?_ ?_ ?_ | refine c_isSheet _ ?_ ?_ ?_ | with_reducible assumption | with_reducible exact rfl | with_reducible exact trivial | (with_reducible (show (_ : Int) ≤ _); omega) | (with_reducible (show (_ : Int) < _); omega) | (with_reducible (show (_ : Nat) < _); omega) | (with_reducible (show (_ : Nat) ≤ _); omega) | with_reducible exact Or.inl rfl | with_reducible exact Or.inr rfl | with_reducible exact Or.inl trivial | with_reducible exact Or.inr trivial | (intro hz; exact absurd hz (by decide)) | (intro hz; exfalso; omega) | refine And.intro ?_ ?_ | intro _))
      all_goals exact h
    · refine x_C false [.inr (13, 0, 150, 0), .inl v, .inl s] [] 40 hS ⟨xok_m hS, trivial, trivial, trivial⟩ ?_
      (repeat' (first | refine m_isPerson hS _ ?_ ?_ ?_ ?_ | refine m_isSheet _ ?_ ?_ ?_ | with_reducible assumption | with_reducible exact rfl | with_reducible exact trivial | (with_reducible (show (_ : Int) ≤ _); omega) | (with_reducible (show (_ : Int) < _); omega) | (with_reducible (show (_ : Nat) < _); omega) | (with_reducible (show (_ : Nat) ≤ _); omega) | with_reducible exact Or.inl rfl | with_reducible exact Or.inr rfl | with_reducible exact Or.inl trivial | with_reducible exact Or.inr trivial | (intro hz; exact absurd hz (by decide)) | (intro hz; exfalso; omega) | refine And.intro ?_ ?_ | intro _))
      all_goals exact h
