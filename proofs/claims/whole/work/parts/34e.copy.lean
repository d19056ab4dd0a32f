/-! copy -/
theorem c_hasRun {d : Nat} {I : mj_I} {S : mj_S} {Q : mj_Q} (hS : mk_Sh S) (a : Nat) (p m : Int) (hx : xok S (10, 0, a, 0)) (hn : 0 ≤ I a 1 ∧ I a 1 ≤ 24) (hm : m ≤ 2147483647) (hT : (0 ≤ p ∧ 0 ≤ m ∧ p ≤ I a 1 - m) → Q (some (.inl 1)) I S) (hF : ¬ (0 ≤ p ∧ 0 ≤ m ∧ p ≤ I a 1 - m) → Q (some (.inl 0)) I S) : mj_C d 176 [.inr a, .inl p, .inl m] I S Q := by
  refine x_C false [.inr (10, 0, a, 0), .inl p, .inl m] [] 30 hS ⟨hx, trivial, trivial, trivial⟩ ?_
  (repeat' (first | with_reducible assumption | with_reducible exact rfl | with_reducible exact trivial | (with_reducible (show (_ : Int) ≤ _); omega) | (with_reducible (show (_ : Int) < _); omega) | (with_reducible (show (_ : Nat) < _); omega) | (with_reducible (show (_ : Nat) ≤ _); omega) | with_reducible exact Or.inl rfl | with_reducible exact Or.inr rfl | with_reducible exact Or.inl trivial | with_reducible exact Or.inr trivial | (intro hz; exact absurd hz (by decide)) | (intro hz; exfalso; omega) | refine And.intro ?_ ?_ | intro _))
  all_goals first | exact hT (by omega) | exact hF (by omega)
theorem cpg_rd {I : mj_I} {a b : Nat} {p q m j : Int} (hp : 0 ≤ p) (hq : 0 ≤ q) (hm : 0 ≤ m) (h1 : p + m ≤ 24) (h2 : q + m ≤ 24) (h0 : 0 ≤ j) (hj : j < 24) : rd (mj_cp I a p.toNat b q.toNat m.toNat) b j = if q ≤ j ∧ j < q + m then rd I a (p + (j - q)) else rd I b j := by
  rw [rd_in h0 (by omega)]
  unfold mj_cp
  by_cases e : q ≤ j ∧ j < q + m
  · rw [if_pos e, if_pos (by omega), rd_in (by omega) (by omega)]
    congr 1
    omega
  · rw [if_neg e, if_neg (by omega), rd_in h0 (by omega)]
theorem cpg_o {I : mj_I} {a b c p q m : Nat} (h : ¬ c = b) : mj_cp I a p b q m c = I c := funext (fun j => if_neg (fun (w : c = b ∧ _) => h w.1))
def cpF (C : Int → Int) (x y : Int) (k : Nat) : Int → Int := fun q => if y ≤ q ∧ q < y + k then C (x + (q - y)) else C q
theorem cpF_s {C : Int → Int} {x y : Int} {k : Nat} : ru (cpF C x y k) (y + k) (C (x + k)) = cpF C x y (k + 1) := by
  funext q
  by_cases e : q = y + k
  · subst e
    rw [ru_s]
    unfold cpF
    rw [if_pos (by omega)]
    congr 1
    omega
  · rw [ru_n e]
    unfold cpF
    by_cases e5 : y ≤ q ∧ q < y + (k : Int)
    · rw [if_pos e5, if_pos (by omega)]
    · rw [if_neg e5, if_neg (by omega)]
theorem P_copy {L : Nat} {xs : Nat → Int32} {n : Nat} (f p t a m : Int) (hm31 : m ≤ 2147483647) : Pair L xs n 175 286 [.inl f, .inl p, .inl t, .inl a, .inl m] := by
  intro I S hn hR
  have hR0 := hR
  obtain ⟨hS, hO, ⟨hN, hCb⟩, hI, hTp, hWt, hSh, hSl, hMo, hCa, hBd⟩ := hR
  have hH := hN.1
  have hCH := hCb.1
  have hb : mB 21 := Or.inl rfl
  unfold InvH at hH
  unfold CbH at hCH
  have ends : ∀ v : Int, (∀ Q : mj_Q, Q (some (.inl v)) I S → mj_C 400 175 (.inr 20 :: [.inl f, .inl p, .inl t, .inl a, .inl m]) I S Q) → (∀ Q : mj_Q, Q (some (.inl v)) I S → mj_C 400 286 (.inr 150 :: [.inl f, .inl p, .inl t, .inl a, .inl m]) I S Q) → mj_C 400 175 (.inr 20 :: [.inl f, .inl p, .inl t, .inl a, .inl m]) I S (fun r I' S' => ∃ v, r = some (.inl v) ∧ (I' 1 = I 1 ∧ S'.2.1 1 = S.2.1 1 ∧ S'.2.1 150 = S.2.1 150) ∧ mj_C 400 286 (.inr 150 :: [.inl f, .inl p, .inl t, .inl a, .inl m]) I' S' (fun r' I'' S'' => r' = some (.inl v) ∧ Rel L xs (n + 1) I'' S'')) := fun v h1 h2 => pair_no hn hR0 v h1 h2
  by_cases hs : (0 ≤ f ∧ f ≤ 3) ∧ (0 ≤ t ∧ t ≤ 3)
  · obtain ⟨f1, f2, f3, f4, f5⟩ := hSh f (by omega) (by omega)
    obtain ⟨t1, t2, t3, t4, t5⟩ := hSh t (by omega) (by omega)
    obtain ⟨o1, o2, o3⟩ := ok_sh hS hs.1
    obtain ⟨u1, u2, u3⟩ := ok_sh hS hs.2
    by_cases hg : rd I 172 f ≠ -1 ∧ rd I 172 t ≠ -1 ∧ rd I 172 f = rd I 172 t ∧ (0 ≤ p ∧ 0 ≤ m ∧ p ≤ rd I 173 f - m) ∧ (0 ≤ a ∧ a ≤ rd I 173 t - m)
    · refine pair_ot hn hR0 m (fun K => K = mj_cp I (122 + 2 * f.toNat + 1) p.toNat (122 + 2 * t.toNat + 1) a.toNat m.toNat) (fun Q h => ?_) (fun K Q hK hP h150 h151 h => ?_)
      · refine x_C false [.inr (1, 0, 20, 0), .inl f, .inl p, .inl t, .inl a, .inl m] [] 70 hS ⟨xok_w hS, trivial, trivial, trivial, trivial, trivial, trivial⟩ ?_
        (repeat' (first | refine c_isSheet _ ?_ ?_ ?_ | refine c_hasRun hS _ _ _ o1 ?_ ?_ ?_ ?_ | refine c_hasRun hS _ _ _ u1 ?_ ?_ ?_ ?_ | with_reducible assumption | with_reducible exact rfl | with_reducible exact trivial | (with_reducible (show (_ : Int) ≤ _); omega) | (with_reducible (show (_ : Int) < _); omega) | (with_reducible (show (_ : Nat) < _); omega) | (with_reducible (show (_ : Nat) ≤ _); omega) | with_reducible exact Or.inl rfl | with_reducible exact Or.inr rfl | with_reducible exact Or.inl trivial | with_reducible exact Or.inr trivial | (intro hz; exact absurd hz (by decide)) | (intro hz; exfalso; omega) | refine And.intro ?_ ?_ | intro _))
        exact h _ (fun c hc => cpg_o (by unfold ocl at hc; omega)) (fun k hk => by rw [cpg_o (by omega)]) rfl
      · have ek : ∀ c, ¬ c = 122 + 2 * t.toNat + 1 → K c = I c := fun c q => by rw [hP]; exact cpg_o q
        have w2 : rd K 172 = rd I 172 := rd_oo (ek 172 (by omega))
        have w3 : rd K 173 = rd I 173 := rd_oo (ek 173 (by omega))
        have w4 : rd K 174 = rd I 174 := rd_oo (ek 174 (by omega))
        have loop2 : ∀ x k : Nat, (k + x : Int) = m → ∀ (kk : Int) (J : mj_I), kk = k → (∀ c, ¬ c = 174 → ¬ c = 179 → J c = K c) → (∀ q, 0 ≤ q → q < m → rd J 179 q = rd I 174 (24 * f + p + q)) → rd J 174 = cpF (rd I 174) (24 * f + p) (24 * t + a) k →
            xW 400 286 78 [some (.inr (13, 0, 150, 0)), some (.inl f), some (.inl p), some (.inl t), some (.inl a), some (.inl m), some (.inl kk)] [] J S Q := by
          intro x
          induction x with
          | zero =>
            intro k hk kk J h1 h2 h3 h4
            refine x_hd false [78] 40 ?_
            (repeat' (first | with_reducible assumption | with_reducible exact rfl | with_reducible exact trivial | (with_reducible (show (_ : Int) ≤ _); omega) | (with_reducible (show (_ : Int) < _); omega) | (with_reducible (show (_ : Nat) < _); omega) | (with_reducible (show (_ : Nat) ≤ _); omega) | with_reducible exact Or.inl rfl | with_reducible exact Or.inr rfl | with_reducible exact Or.inl trivial | with_reducible exact Or.inr trivial | (intro hz; exact absurd hz (by decide)) | (intro hz; exfalso; omega) | refine And.intro ?_ ?_ | intro _))
            refine h J (fun c hc => h2 c (by unfold omd at hc; omega) (by unfold omd scr at hc; omega)) (fun k _ _ => by rw [h2 150 (by omega) (by omega)]) ?_ ?_ ?_ ?_
            · exact RT_s hTp (by rw [h2 115 (by omega) (by omega), ek 115 (by omega)]) (by rw [h2 150 (by omega) (by omega), h150]) (rd_oo (by rw [h2 116 (by omega) (by omega), ek 116 (by omega)])) (rd_oo (by rw [h2 156 (by omega) (by omega), ek 156 (by omega)]))
            · exact RW_s hWt (by rw [h2 20 (by omega) (by omega), ek 20 (by omega)]) (by rw [h2 150 (by omega) (by omega), h150]) (rd_oo (by rw [h2 120 (by omega) (by omega), ek 120 (by omega)])) (rd_oo (by rw [h2 180 (by omega) (by omega), ek 180 (by omega)]))
            · intro q q0 q1
              have hq := hSh q q0 q1
              unfold RS1 at hq ⊢
              rw [h2 _ (by omega) (by omega), rd_oo (h2 (122 + 2 * q.toNat + 1) (by omega) (by omega)), rd_oo (h2 172 (by omega) (by omega)), rd_oo (h2 173 (by omega) (by omega)), h4, w2, w3, ek _ (by omega)]
              refine ⟨hq.1, hq.2.1, hq.2.2.1, hq.2.2.2.1, fun j j0 j1 => ?_⟩
              by_cases e : q = t
              · subst e
                rw [hP, cpg_rd (by omega) (by omega) (by omega) (by omega) (by omega) j0 j1]
                unfold cpF
                by_cases e2 : a ≤ j ∧ j < a + m
                · rw [if_pos e2, if_pos (by omega), f5 _ (by omega) (by omega)]
                  congr 1
                  omega
                · rw [if_neg e2, if_neg (by omega)]
                  exact hq.2.2.2.2 j j0 j1
              · rw [rd_oo (ek (122 + 2 * q.toNat + 1) (by omega)), hq.2.2.2.2 j j0 j1]
                unfold cpF
                rw [if_neg (by omega)]
            · exact RSl_s hSl (fun c q1 q2 => by rw [h2 c (by omega) (by omega), ek c (by omega)]) (rd_oo (by rw [h2 175 (by omega) (by omega), ek 175 (by omega)])) (rd_oo (by rw [h2 176 (by omega) (by omega), ek 176 (by omega)])) (rd_oo (by rw [h2 177 (by omega) (by omega), ek 177 (by omega)])) (rd_oo (by rw [h2 178 (by omega) (by omega), ek 178 (by omega)]))
          | succ x ih =>
            intro k hk kk J h1 h2 h3 h4
            subst h1
            have e179 := h3 k (by omega) (by omega)
            refine x_hd false [78] 40 ?_
            (repeat' (first | rw [e179] | with_reducible assumption | with_reducible exact rfl | with_reducible exact trivial | (with_reducible (show (_ : Int) ≤ _); omega) | (with_reducible (show (_ : Int) < _); omega) | (with_reducible (show (_ : Nat) < _); omega) | (with_reducible (show (_ : Nat) ≤ _); omega) | with_reducible exact Or.inl rfl | with_reducible exact Or.inr rfl | with_reducible exact Or.inl trivial | with_reducible exact Or.inr trivial | (intro hz; exact absurd hz (by decide)) | (intro hz; exfalso; omega) | refine And.intro ?_ ?_ | intro _))
            refine ih (k + 1) (by omega) _ _ (by omega) (fun c q1 q2 => by rw [up_o q1]; exact h2 c q1 q2) (fun q q0 q1 => by rw [rd_uo (by decide)]; exact h3 q q0 q1) ?_
            rw [rd_up (by omega) (by omega), h4]
            exact cpF_s
        have loop1 : ∀ x k : Nat, (k + x : Int) = m → ∀ (kk : Int) (J : mj_I), kk = k → (∀ c, ¬ c = 179 → J c = K c) → (∀ q, 0 ≤ q → q < (k : Int) → rd J 179 q = rd I 174 (24 * f + p + q)) →
            xW 400 286 57 [some (.inr (13, 0, 150, 0)), some (.inl f), some (.inl p), some (.inl t), some (.inl a), some (.inl m), some (.inl kk)] [] J S Q := by
          intro x
          induction x with
          | zero =>
            intro k hk kk J h1 h2 h3
            refine x_hd false [57, 78] 40 ?_
            (repeat' (first | with_reducible assumption | with_reducible exact rfl | with_reducible exact trivial | (with_reducible (show (_ : Int) ≤ _); omega) | (with_reducible (show (_ : Int) < _); omega) | (with_reducible (show (_ : Nat) < _); omega) | (with_reducible (show (_ : Nat) ≤ _); omega) | with_reducible exact Or.inl rfl | with_reducible exact Or.inr rfl | with_reducible exact Or.inl trivial | with_reducible exact Or.inr trivial | (intro hz; exact absurd hz (by decide)) | (intro hz; exfalso; omega) | refine And.intro ?_ ?_ | intro _))
            refine loop2 m.toNat 0 (by omega) _ _ rfl (fun c q1 q2 => h2 c q2) (fun q q0 q1 => h3 q q0 (by omega)) ?_
            rw [rd_oo (h2 174 (by omega)), w4]
            funext q
            unfold cpF
            rw [if_neg (by omega)]
          | succ x ih =>
            intro k hk kk J h1 h2 h3
            subst h1
            have e174 : rd J 174 = rd I 174 := by rw [rd_oo (h2 174 (by omega)), w4]
            refine x_hd false [57, 78] 40 ?_
            (repeat' (first | rw [e174] | with_reducible assumption | with_reducible exact rfl | with_reducible exact trivial | (with_reducible (show (_ : Int) ≤ _); omega) | (with_reducible (show (_ : Int) < _); omega) | (with_reducible (show (_ : Nat) < _); omega) | (with_reducible (show (_ : Nat) ≤ _); omega) | with_reducible exact Or.inl rfl | with_reducible exact Or.inr rfl | with_reducible exact Or.inl trivial | with_reducible exact Or.inr trivial | (intro hz; exact absurd hz (by decide)) | (intro hz; exfalso; omega) | refine And.intro ?_ ?_ | intro _))
            refine ih (k + 1) (by omega) _ _ (by omega) (fun c q1 => by rw [up_o q1]; exact h2 c q1) (fun q q0 q1 => ?_)
            rw [rd_up (by omega) (by omega)]
            by_cases e : q = k
            · rw [e, ru_s]
            · rw [ru_n e]
              exact h3 q q0 (by omega)
        refine x_C false [.inr (13, 0, 150, 0), .inl f, .inl p, .inl t, .inl a, .inl m] [57, 78] 70 hS ⟨xok_m hS, trivial, trivial, trivial, trivial, trivial, trivial⟩ ?_
        (repeat' (first | rw [w2] | rw [w3] | refine m_isSheet _ ?_ ?_ ?_ | with_reducible assumption | with_reducible exact rfl | with_reducible exact trivial | (with_reducible (show (_ : Int) ≤ _); omega) | (with_reducible (show (_ : Int) < _); omega) | (with_reducible (show (_ : Nat) < _); omega) | (with_reducible (show (_ : Nat) ≤ _); omega) | with_reducible exact Or.inl rfl | with_reducible exact Or.inr rfl | with_reducible exact Or.inl trivial | with_reducible exact Or.inr trivial | (intro hz; exact absurd hz (by decide)) | (intro hz; exfalso; omega) | refine And.intro ?_ ?_ | intro _))
        exact loop1 m.toNat 0 (by omega) _ _ rfl (fun c _ => rfl) (fun q q0 q1 => by omega)
    · by_cases hk1 : rd I 172 f = -1 ∨ rd I 172 t = -1
      · refine ends (-1000000011) (fun Q h => ?_) (fun Q h => ?_)
        · refine x_C false [.inr (1, 0, 20, 0), .inl f, .inl p, .inl t, .inl a, .inl m] [] 70 hS ⟨xok_w hS, trivial, trivial, trivial, trivial, trivial, trivial⟩ ?_
          (repeat' (first | refine c_isSheet _ ?_ ?_ ?_ | with_reducible assumption | with_reducible exact rfl | with_reducible exact trivial | (with_reducible (show (_ : Int) ≤ _); omega) | (with_reducible (show (_ : Int) < _); omega) | (with_reducible (show (_ : Nat) < _); omega) | (with_reducible (show (_ : Nat) ≤ _); omega) | with_reducible exact Or.inl rfl | with_reducible exact Or.inr rfl | with_reducible exact Or.inl trivial | with_reducible exact Or.inr trivial | (intro hz; exact absurd hz (by decide)) | (intro hz; exfalso; omega) | refine And.intro ?_ ?_ | intro _))
          all_goals exact h
        · refine x_C false [.inr (13, 0, 150, 0), .inl f, .inl p, .inl t, .inl a, .inl m] [] 70 hS ⟨xok_m hS, trivial, trivial, trivial, trivial, trivial, trivial⟩ ?_
          (repeat' (first | refine m_isSheet _ ?_ ?_ ?_ | with_reducible assumption | with_reducible exact rfl | with_reducible exact trivial | (with_reducible (show (_ : Int) ≤ _); omega) | (with_reducible (show (_ : Int) < _); omega) | (with_reducible (show (_ : Nat) < _); omega) | (with_reducible (show (_ : Nat) ≤ _); omega) | with_reducible exact Or.inl rfl | with_reducible exact Or.inr rfl | with_reducible exact Or.inl trivial | with_reducible exact Or.inr trivial | (intro hz; exact absurd hz (by decide)) | (intro hz; exfalso; omega) | refine And.intro ?_ ?_ | intro _))
          all_goals exact h
      · by_cases hk2 : rd I 172 f = rd I 172 t
        · refine ends (-1000000013) (fun Q h => ?_) (fun Q h => ?_)
          · refine x_C false [.inr (1, 0, 20, 0), .inl f, .inl p, .inl t, .inl a, .inl m] [] 70 hS ⟨xok_w hS, trivial, trivial, trivial, trivial, trivial, trivial⟩ ?_
            (repeat' (first | refine c_isSheet _ ?_ ?_ ?_ | refine c_hasRun hS _ _ _ o1 ?_ ?_ ?_ ?_ | refine c_hasRun hS _ _ _ u1 ?_ ?_ ?_ ?_ | with_reducible assumption | with_reducible exact rfl | with_reducible exact trivial | (with_reducible (show (_ : Int) ≤ _); omega) | (with_reducible (show (_ : Int) < _); omega) | (with_reducible (show (_ : Nat) < _); omega) | (with_reducible (show (_ : Nat) ≤ _); omega) | with_reducible exact Or.inl rfl | with_reducible exact Or.inr rfl | with_reducible exact Or.inl trivial | with_reducible exact Or.inr trivial | (intro hz; exact absurd hz (by decide)) | (intro hz; exfalso; omega) | refine And.intro ?_ ?_ | intro _))
            all_goals exact h
          · refine x_C false [.inr (13, 0, 150, 0), .inl f, .inl p, .inl t, .inl a, .inl m] [] 70 hS ⟨xok_m hS, trivial, trivial, trivial, trivial, trivial, trivial⟩ ?_
            (repeat' (first | refine m_isSheet _ ?_ ?_ ?_ | with_reducible assumption | with_reducible exact rfl | with_reducible exact trivial | (with_reducible (show (_ : Int) ≤ _); omega) | (with_reducible (show (_ : Int) < _); omega) | (with_reducible (show (_ : Nat) < _); omega) | (with_reducible (show (_ : Nat) ≤ _); omega) | with_reducible exact Or.inl rfl | with_reducible exact Or.inr rfl | with_reducible exact Or.inl trivial | with_reducible exact Or.inr trivial | (intro hz; exact absurd hz (by decide)) | (intro hz; exfalso; omega) | refine And.intro ?_ ?_ | intro _))
            all_goals exact h
        · refine ends (-1000000012) (fun Q h => ?_) (fun Q h => ?_)
          · refine x_C false [.inr (1, 0, 20, 0), .inl f, .inl p, .inl t, .inl a, .inl m] [] 70 hS ⟨xok_w hS, trivial, trivial, trivial, trivial, trivial, trivial⟩ ?_
            (repeat' (first | refine c_isSheet _ ?_ ?_ ?_ | with_reducible assumption | with_reducible exact rfl | with_reducible exact trivial | (with_reducible (show (_ : Int) ≤ _); omega) | (with_reducible (show (_ : Int) < _); omega) | (with_reducible (show (_ : Nat) < _); omega) | (with_reducible (show (_ : Nat) ≤ _); omega) | with_reducible exact Or.inl rfl | with_reducible exact Or.inr rfl | with_reducible exact Or.inl trivial | with_reducible exact Or.inr trivial | (intro hz; exact absurd hz (by decide)) | (intro hz; exfalso; omega) | refine And.intro ?_ ?_ | intro _))
            all_goals exact h
          · refine x_C false [.inr (13, 0, 150, 0), .inl f, .inl p, .inl t, .inl a, .inl m] [] 70 hS ⟨xok_m hS, trivial, trivial, trivial, trivial, trivial, trivial⟩ ?_
            (repeat' (first | refine m_isSheet _ ?_ ?_ ?_ | with_reducible assumption | with_reducible exact rfl | with_reducible exact trivial | (with_reducible (show (_ : Int) ≤ _); omega) | (with_reducible (show (_ : Int) < _); omega) | (with_reducible (show (_ : Nat) < _); omega) | (with_reducible (show (_ : Nat) ≤ _); omega) | with_reducible exact Or.inl rfl | with_reducible exact Or.inr rfl | with_reducible exact Or.inl trivial | with_reducible exact Or.inr trivial | (intro hz; exact absurd hz (by decide)) | (intro hz; exfalso; omega) | refine And.intro ?_ ?_ | intro _))
            all_goals exact h
  · refine ends (-1000000001) (fun Q h => ?_) (fun Q h => ?_)
    · refine x_C false [.inr (1, 0, 20, 0), .inl f, .inl p, .inl t, .inl a, .inl m] [] 70 hS ⟨xok_w hS, trivial, trivial, trivial, trivial, trivial, trivial⟩ ?_
      (repeat' (first | refine c_isSheet _ ?_ ?_ ?_ | with_reducible assumption | with_reducible exact rfl | with_reducible exact trivial | (with_reducible (show (_ : Int) ≤ _); omega) | (with_reducible (show (_ : Int) < _); omega) | (with_reducible (show (_ : Nat) < _); omega) | (with_reducible (show (_ : Nat) ≤ _); omega) | with_reducible exact Or.inl rfl | with_reducible exact Or.inr rfl | with_reducible exact Or.inl trivial | with_reducible exact Or.inr trivial | (intro hz; exact absurd hz (by decide)) | (intro hz; exfalso; omega) | refine And.intro ?_ ?_ | intro _))
      all_goals exact h
    · refine x_C false [.inr (13, 0, 150, 0), .inl f, .inl p, .inl t, .inl a, .inl m] [] 70 hS ⟨xok_m hS, trivial, trivial, trivial, trivial, trivial, trivial⟩ ?_
      (repeat' (first | refine m_isSheet _ ?_ ?_ ?_ | with_reducible assumption | with_reducible exact rfl | with_reducible exact trivial | (with_reducible (show (_ : Int) ≤ _); omega) | (with_reducible (show (_ : Int) < _); omega) | (with_reducible (show (_ : Nat) < _); omega) | (with_reducible (show (_ : Nat) ≤ _); omega) | with_reducible exact Or.inl rfl | with_reducible exact Or.inr rfl | with_reducible exact Or.inl trivial | with_reducible exact Or.inr trivial | (intro hz; exact absurd hz (by decide)) | (intro hz; exfalso; omega) | refine And.intro ?_ ?_ | intro _))
      all_goals exact h
