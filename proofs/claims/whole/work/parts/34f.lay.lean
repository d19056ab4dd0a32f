/-! lay -/
def w_tkS (I : mj_I) (a c : Nat) : mj_I := mj_cp (mj_up (mj_up I a 0 (I c 0)) a 1 (I c 1)) (c + 1) 0 (a + 1) 0 24
theorem c_tkS {d : Nat} {I : mj_I} {S : mj_S} {Q : mj_Q} (hS : mk_Sh S) (a c : Nat) (ha : xok S (10, 0, a, 0)) (hc : xok S (10, 0, c, 0)) (hac : ¬ c = a) (h : Q none (w_tkS I a c) S) : mj_C d 179 [.inr a, .inr c] I S Q := by
  have e : mj_cp (mj_up (mj_up I a 0 (I c 0)) a 1 (mj_up I a 0 (I c 0) c 1)) (c + 1) 0 (a + 1) 0 24 = w_tkS I a c := by
    unfold w_tkS
    rw [mu_f (by omega)]
  rw [← e] at h
  refine x_C false [.inr (10, 0, a, 0), .inr (10, 0, c, 0)] [] 30 hS ⟨ha, hc, trivial⟩ ?_
  (repeat' (first | with_reducible assumption | with_reducible exact rfl | with_reducible exact trivial | (with_reducible (show (_ : Int) ≤ _); omega) | (with_reducible (show (_ : Int) < _); omega) | (with_reducible (show (_ : Nat) < _); omega) | (with_reducible (show (_ : Nat) ≤ _); omega) | with_reducible exact Or.inl rfl | with_reducible exact Or.inr rfl | with_reducible exact Or.inl trivial | with_reducible exact Or.inr trivial | (intro hz; exact absurd hz (by decide)) | (intro hz; exfalso; omega) | refine And.intro ?_ ?_ | intro _))
  exact h
theorem P_lay {L : Nat} {xs : Nat → Int32} {n : Nat} (s o k : Int) : Pair L xs n 177 287 [.inl s, .inl o, .inl k] := by
  intro I S hn hR
  have hR0 := hR
  obtain ⟨hS, hO, ⟨hN, hCb⟩, hI, hTp, hWt, hSh, hSl, hMo, hCa, hBd⟩ := hR
  have hH := hN.1
  have hCH := hCb.1
  have hb : mB 21 := Or.inl rfl
  unfold InvH at hH
  unfold CbH at hCH
  by_cases hv : (0 ≤ s ∧ s ≤ 4) ∧ (0 ≤ o ∧ o ≤ 3) ∧ (o = 1 → 0 ≤ k ∧ k < rd I 151 4) ∧ (o = 2 → 0 ≤ k ∧ k ≤ 3)
  · obtain ⟨s1, s2, s3, s4, s5⟩ := hSl s (by omega) (by omega)
    obtain ⟨o1, o2, o3, o4, o5⟩ := ok_sl hS hv.1
    have s9 : I (130 + 4 * s.toNat) 0 = rd I 175 s := s1
    -- the reference's side, once for all
    have slf : ∀ (J : mj_I) (A B : Int), (∀ c, ¬ (130 + 4 * s.toNat ≤ c ∧ c ≤ 130 + 4 * s.toNat + 3) → ¬ (175 ≤ c ∧ c ≤ 178) → J c = I c) → rd J 175 = ru (rd I 175) s o → rd J 176 = ru (rd I 176) s A → rd J 177 = ru (rd I 177) s B → (∀ q, ¬ (24 * s ≤ q ∧ q < 24 * s + 24) → rd J 178 q = rd I 178 q) → RL1 J s → RSl J := by
      intro J A B e h5 h6 h7 h8 hs q q0 q1
      by_cases e1 : q = s
      · rw [e1]
        exact hs
      · have hq := hSl q q0 q1
        unfold RL1 at hq ⊢
        rw [e _ (by omega) (by omega), e (130 + 4 * q.toNat + 1) (by omega) (by omega), e (130 + 4 * q.toNat + 2) (by omega) (by omega), rd_oo (e (130 + 4 * q.toNat + 2 + 1) (by omega) (by omega)), h5, h6, h7, ru_n e1, ru_n e1, ru_n e1]
        refine ⟨hq.1, hq.2.1, hq.2.2.1, fun z => ⟨(hq.2.2.2.1 z).1, (hq.2.2.2.1 z).2.1, fun i i0 i1 => ?_⟩, hq.2.2.2.2⟩
        rw [h8 _ (by omega)]
        exact (hq.2.2.2.1 z).2.2 i i0 i1
    have fin : ∀ (K J : mj_I), (∀ c, ¬ (130 ≤ c ∧ c ≤ 149) → K c = I c) → (∀ c, ¬ (175 ≤ c ∧ c ≤ 178) → J c = K c) → RT J ∧ RW J ∧ RSh J := by
      intro K J ek ej
      have e : ∀ c, ¬ (130 ≤ c ∧ c ≤ 149) → ¬ (175 ≤ c ∧ c ≤ 178) → J c = I c := fun c h1 h2 => by rw [ej c h2, ek c h1]
      exact ⟨RT_s hTp (by rw [e 115 (by omega) (by omega)]) (by rw [e 150 (by omega) (by omega)]) (rd_oo (e 116 (by omega) (by omega))) (rd_oo (e 156 (by omega) (by omega))), RW_s hWt (by rw [e 20 (by omega) (by omega)]) (by rw [e 150 (by omega) (by omega)]) (rd_oo (e 120 (by omega) (by omega))) (rd_oo (e 180 (by omega) (by omega))), RSh_s hSh (fun c h1 h2 => e c (by omega) (by omega)) (rd_oo (e 172 (by omega) (by omega))) (rd_oo (e 173 (by omega) (by omega))) (rd_oo (e 174 (by omega) (by omega)))⟩
    by_cases ho1 : o = 1
    · subst ho1
      have hk := hv.2.2.1 rfl
      have hCk := hCb.2.2.2.1 k hk.1 hk.2
      have hIk := hN.2.2.2.1 k hk.1 hk.2
      unfold CbR at hCk
      unfold InvR at hIk
      refine pair_ot hn hR0 (rd I 175 s) (fun K => K = w_tkR (mj_up I (130 + 4 * s.toNat) 0 1) (130 + 4 * s.toNat + 1) (21 + 28 + k.toNat)) (fun Q h => ?_) (fun K Q hK hP h150 h151 h => ?_)
      · refine x_C false [.inr (1, 0, 20, 0), .inl s, .inl 1, .inl k] [] 90 hS ⟨xok_w hS, trivial, trivial, trivial, trivial⟩ ?_
        (repeat' (first | rw [s9] | refine c_isSlot _ ?_ ?_ ?_ | refine c_within _ _ _ ?_ ?_ | refine c_hasRule hS hb _ ?_ ?_ ?_ ?_ | refine c_tkR hS _ _ o5 (tg_Ru hS hb (by omega) (by omega)) ?_ ?_ | with_reducible assumption | with_reducible exact rfl | with_reducible exact trivial | (with_reducible (show (_ : Int) ≤ _); omega) | (with_reducible (show (_ : Int) < _); omega) | (with_reducible (show (_ : Nat) < _); omega) | (with_reducible (show (_ : Nat) ≤ _); omega) | with_reducible exact Or.inl rfl | with_reducible exact Or.inr rfl | with_reducible exact Or.inl trivial | with_reducible exact Or.inr trivial | (intro hz; exact absurd hz (by decide)) | (intro hz; exfalso; omega) | refine And.intro ?_ ?_ | intro _))
        exact h _ (fun c hc => by unfold ocl at hc; unfold w_tkR; simp (disch := omega) only [mu_o]) (fun j hj => by unfold w_tkR; simp (disch := omega) only [mu_o]) rfl
      · have ek : ∀ c, ¬ c = 130 + 4 * s.toNat → ¬ c = 130 + 4 * s.toNat + 1 → K c = I c := fun c h1 h2 => by rw [hP]; unfold w_tkR; simp (disch := omega) only [mu_o]
        have w1 : rd K 151 = rd I 151 := rd_oo (ek 151 (by omega) (by omega))
        have w5 : rd K 175 = rd I 175 := rd_oo (ek 175 (by omega) (by omega))
        refine x_C false [.inr (13, 0, 150, 0), .inl s, .inl 1, .inl k] [] 90 hS ⟨xok_m hS, trivial, trivial, trivial, trivial⟩ ?_
        (repeat' (first | rw [w1] | rw [w5] | rw [rd_uo (by decide)] | refine m_isSlot _ ?_ ?_ ?_ | refine c_in _ _ _ ?_ ?_ | refine m_isRule hS _ ?_ ?_ ?_ ?_ | refine m_rule4 hS _ _ ?_ ?_ ?_ | with_reducible assumption | with_reducible exact rfl | with_reducible exact trivial | (with_reducible (show (_ : Int) ≤ _); omega) | (with_reducible (show (_ : Int) < _); omega) | (with_reducible (show (_ : Nat) < _); omega) | (with_reducible (show (_ : Nat) ≤ _); omega) | with_reducible exact Or.inl rfl | with_reducible exact Or.inr rfl | with_reducible exact Or.inl trivial | with_reducible exact Or.inr trivial | (intro hz; exact absurd hz (by decide)) | (intro hz; exfalso; omega) | refine And.intro ?_ ?_ | intro _))
        have ej : ∀ c, ¬ (175 ≤ c ∧ c ≤ 178) → up (up (up K 175 s 1) 176 s (rd I 151 (88 + 4 * k + 0))) 177 s (rd I 151 (88 + 4 * k + 3)) c = K c := fun c hc => by simp (disch := omega) only [up_o]
        obtain ⟨r1, r2, r3⟩ := fin K _ (fun c hc => ek c (by omega) (by omega)) ej
        have g5 : rd (up (up (up K 175 s 1) 176 s (rd I 151 (88 + 4 * k + 0))) 177 s (rd I 151 (88 + 4 * k + 3))) 175 = ru (rd I 175) s 1 := by simp (disch := omega) only [rd_uo, rd_up]; rw [w5]
        have g6 : rd (up (up (up K 175 s 1) 176 s (rd I 151 (88 + 4 * k + 0))) 177 s (rd I 151 (88 + 4 * k + 3))) 176 = ru (rd I 176) s (rd I 151 (88 + 4 * k + 0)) := by simp (disch := omega) only [rd_uo, rd_up]; rw [rd_oo (ek 176 (by omega) (by omega))]
        have g7 : rd (up (up (up K 175 s 1) 176 s (rd I 151 (88 + 4 * k + 0))) 177 s (rd I 151 (88 + 4 * k + 3))) 177 = ru (rd I 177) s (rd I 151 (88 + 4 * k + 3)) := by simp (disch := omega) only [rd_uo, rd_up]; rw [rd_oo (ek 177 (by omega) (by omega))]
        refine h _ (fun c hc => ej c (by unfold omd at hc; omega)) (fun j _ _ => by rw [ej 150 (by omega)]) r1 r2 r3 (slf _ _ _ (fun c h1 h2 => by rw [ej c h2, ek c (by omega) (by omega)]) g5 g6 g7 (fun q hq => by simp (disch := omega) only [rd_uo]; rw [rd_oo (ek 178 (by omega) (by omega))]) ?_)
        unfold RL1
        rw [g5, g6, g7, ru_s, ru_s, ru_s, ej _ (by omega), ej (130 + 4 * s.toNat + 1) (by omega), ej (130 + 4 * s.toNat + 2) (by omega), hP]
        unfold w_tkR
        simp (disch := omega) only [mu_f, mj_up_s, mj_up_n]
        refine ⟨trivial, by omega, fun _ => ⟨hCk.1, hCk.2.2.2, by omega, by omega⟩, fun z => absurd z (by decide), fun z => absurd z (by decide)⟩
    · by_cases ho2 : o = 2
      · subst ho2
        have hk := hv.2.2.2 rfl
        obtain ⟨t1, t2, t3, t4, t5⟩ := hSh k (by omega) (by omega)
        obtain ⟨u1, u2, u3⟩ := ok_sh hS hk
        by_cases hk1 : rd I 172 k = -1
        · refine pair_no hn hR0 (-1000000011) (fun Q h => ?_) (fun Q h => ?_)
          · refine x_C false [.inr (1, 0, 20, 0), .inl s, .inl 2, .inl k] [] 60 hS ⟨xok_w hS, trivial, trivial, trivial, trivial⟩ ?_
            (repeat' (first | refine c_isSlot _ ?_ ?_ ?_ | refine c_within _ _ _ ?_ ?_ | refine c_isSheet _ ?_ ?_ ?_ | with_reducible assumption | with_reducible exact rfl | with_reducible exact trivial | (with_reducible (show (_ : Int) ≤ _); omega) | (with_reducible (show (_ : Int) < _); omega) | (with_reducible (show (_ : Nat) < _); omega) | (with_reducible (show (_ : Nat) ≤ _); omega) | with_reducible exact Or.inl rfl | with_reducible exact Or.inr rfl | with_reducible exact Or.inl trivial | with_reducible exact Or.inr trivial | (intro hz; exact absurd hz (by decide)) | (intro hz; exfalso; omega) | refine And.intro ?_ ?_ | intro _))
            all_goals exact h
          · refine x_C false [.inr (13, 0, 150, 0), .inl s, .inl 2, .inl k] [] 60 hS ⟨xok_m hS, trivial, trivial, trivial, trivial⟩ ?_
            (repeat' (first | refine m_isSlot _ ?_ ?_ ?_ | refine c_in _ _ _ ?_ ?_ | refine m_isSheet _ ?_ ?_ ?_ | with_reducible assumption | with_reducible exact rfl | with_reducible exact trivial | (with_reducible (show (_ : Int) ≤ _); omega) | (with_reducible (show (_ : Int) < _); omega) | (with_reducible (show (_ : Nat) < _); omega) | (with_reducible (show (_ : Nat) ≤ _); omega) | with_reducible exact Or.inl rfl | with_reducible exact Or.inr rfl | with_reducible exact Or.inl trivial | with_reducible exact Or.inr trivial | (intro hz; exact absurd hz (by decide)) | (intro hz; exfalso; omega) | refine And.intro ?_ ?_ | intro _))
            all_goals exact h
        · refine pair_ot hn hR0 (rd I 175 s) (fun K => K = w_tkS (mj_up I (130 + 4 * s.toNat) 0 2) (130 + 4 * s.toNat + 2) (122 + 2 * k.toNat)) (fun Q h => ?_) (fun K Q hK hP h150 h151 h => ?_)
          · refine x_C false [.inr (1, 0, 20, 0), .inl s, .inl 2, .inl k] [] 90 hS ⟨xok_w hS, trivial, trivial, trivial, trivial⟩ ?_
            (repeat' (first | rw [s9] | refine c_isSlot _ ?_ ?_ ?_ | refine c_within _ _ _ ?_ ?_ | refine c_isSheet _ ?_ ?_ ?_ | refine c_tkS hS _ _ o3 u1 ?_ ?_ | with_reducible assumption | with_reducible exact rfl | with_reducible exact trivial | (with_reducible (show (_ : Int) ≤ _); omega) | (with_reducible (show (_ : Int) < _); omega) | (with_reducible (show (_ : Nat) < _); omega) | (with_reducible (show (_ : Nat) ≤ _); omega) | with_reducible exact Or.inl rfl | with_reducible exact Or.inr rfl | with_reducible exact Or.inl trivial | with_reducible exact Or.inr trivial | (intro hz; exact absurd hz (by decide)) | (intro hz; exfalso; omega) | refine And.intro ?_ ?_ | intro _))
            exact h _ (fun c hc => by unfold ocl at hc; unfold w_tkS; rw [cpg_o (by omega), mu_o (by omega), mu_o (by omega), mu_o (by omega)]) (fun j hj => by unfold w_tkS; rw [cpg_o (by omega), mu_o (by omega), mu_o (by omega), mu_o (by omega)]) rfl
          · have ek : ∀ c, ¬ c = 130 + 4 * s.toNat → ¬ c = 130 + 4 * s.toNat + 2 → ¬ c = 130 + 4 * s.toNat + 2 + 1 → K c = I c := fun c h1 h2 h3 => by rw [hP]; unfold w_tkS; rw [cpg_o (by omega), mu_o (by omega), mu_o (by omega), mu_o (by omega)]
            have w2 : rd K 172 = rd I 172 := rd_oo (ek 172 (by omega) (by omega) (by omega))
            have w3 : rd K 173 = rd I 173 := rd_oo (ek 173 (by omega) (by omega) (by omega))
            have w5 : rd K 175 = rd I 175 := rd_oo (ek 175 (by omega) (by omega) (by omega))
            have loop : ∀ x j : Nat, j + x = 24 → ∀ (jj : Int) (J : mj_I), jj = j → (∀ c, ¬ (175 ≤ c ∧ c ≤ 178) → J c = K c) → rd J 175 = ru (rd I 175) s 2 → rd J 176 = ru (rd I 176) s (rd I 173 k) → rd J 177 = ru (rd I 177) s 0 → (∀ q, ¬ (24 * s ≤ q ∧ q < 24 * s + j) → rd J 178 q = rd I 178 q) → (∀ q, 0 ≤ q → q < (j : Int) → rd J 178 (24 * s + q) = rd I 174 (24 * k + q)) →
                xW 400 287 79 [some (.inr (13, 0, 150, 0)), some (.inl s), some (.inl 2), some (.inl k), some (.inl (rd I 175 s)), some (.inl jj)] [] J S Q := by
              intro x
              induction x with
              | zero =>
                intro j hj jj J h1 ej g5 g6 g7 g8 g9
                refine x_hd false [79] 40 ?_
                (repeat' (first | with_reducible assumption | with_reducible exact rfl | with_reducible exact trivial | (with_reducible (show (_ : Int) ≤ _); omega) | (with_reducible (show (_ : Int) < _); omega) | (with_reducible (show (_ : Nat) < _); omega) | (with_reducible (show (_ : Nat) ≤ _); omega) | with_reducible exact Or.inl rfl | with_reducible exact Or.inr rfl | with_reducible exact Or.inl trivial | with_reducible exact Or.inr trivial | (intro hz; exact absurd hz (by decide)) | (intro hz; exfalso; omega) | refine And.intro ?_ ?_ | intro _))
                obtain ⟨r1, r2, r3⟩ := fin K J (fun c hc => ek c (by omega) (by omega) (by omega)) ej
                refine h J (fun c hc => ej c (by unfold omd at hc; omega)) (fun j _ _ => by rw [ej 150 (by omega)]) r1 r2 r3 (slf _ _ _ (fun c h1 h2 => by rw [ej c h2, ek c (by omega) (by omega) (by omega)]) g5 g6 g7 (fun q hq => g8 q (by omega)) ?_)
                unfold RL1
                rw [g5, g6, g7, ru_s, ru_s, ru_s, ej _ (by omega), ej (130 + 4 * s.toNat + 1) (by omega), ej (130 + 4 * s.toNat + 2) (by omega), rd_oo (ej (130 + 4 * s.toNat + 2 + 1) (by omega)), hP]
                unfold w_tkS
                simp (disch := omega) only [cpg_o, mu_f, mj_up_s, mj_up_n]
                refine ⟨trivial, by omega, fun z => absurd z (by decide), fun _ => ⟨t3, t4, fun i i0 i1 => ?_⟩, fun z => absurd z (by decide)⟩
                rw [g9 i i0 (by omega), ← t5 i i0 i1]
                have hcp := cpg_rd (I := mj_up (mj_up (mj_up I (130 + 4 * s.toNat) 0 2) (130 + 4 * s.toNat + 2) 0 (I (122 + 2 * k.toNat) 0)) (130 + 4 * s.toNat + 2) 1 (I (122 + 2 * k.toNat) 1)) (a := 122 + 2 * k.toNat + 1) (b := 130 + 4 * s.toNat + 2 + 1) (p := 0) (q := 0) (m := 24) (j := i) (by decide) (by decide) (by decide) (by decide) (by decide) i0 i1
                rw [if_pos (by omega), rd_mu (by omega), rd_mu (by omega), rd_mu (by omega), show (0 : Int) + (i - 0) = i by omega] at hcp
                exact hcp
              | succ x ih =>
                intro j hj jj J h1 ej g5 g6 g7 g8 g9
                subst h1
                have w4 : rd J 174 = rd I 174 := by rw [rd_oo (ej 174 (by omega)), rd_oo (ek 174 (by omega) (by omega) (by omega))]
                refine x_hd false [79] 40 ?_
                (repeat' (first | rw [w4] | with_reducible assumption | with_reducible exact rfl | with_reducible exact trivial | (with_reducible (show (_ : Int) ≤ _); omega) | (with_reducible (show (_ : Int) < _); omega) | (with_reducible (show (_ : Nat) < _); omega) | (with_reducible (show (_ : Nat) ≤ _); omega) | with_reducible exact Or.inl rfl | with_reducible exact Or.inr rfl | with_reducible exact Or.inl trivial | with_reducible exact Or.inr trivial | (intro hz; exact absurd hz (by decide)) | (intro hz; exfalso; omega) | refine And.intro ?_ ?_ | intro _))
                refine ih (j + 1) (by omega) _ _ (by omega) (fun c hc => by rw [up_o (by omega)]; exact ej c hc) (by rw [rd_uo (by decide)]; exact g5) (by rw [rd_uo (by decide)]; exact g6) (by rw [rd_uo (by decide)]; exact g7) (fun q hq => ?_) (fun q q0 q1 => ?_)
                · rw [rd_up (by omega) (by omega), ru_n (by omega)]
                  exact g8 q (by omega)
                · rw [rd_up (by omega) (by omega)]
                  by_cases e : q = j
                  · rw [e, ru_s]
                  · rw [ru_n (by omega)]
                    exact g9 q q0 (by omega)
            refine x_C false [.inr (13, 0, 150, 0), .inl s, .inl 2, .inl k] [79] 90 hS ⟨xok_m hS, trivial, trivial, trivial, trivial⟩ ?_
            (repeat' (first | rw [w2] | rw [w3] | rw [w5] | rw [rd_uo (by decide)] | refine m_isSlot _ ?_ ?_ ?_ | refine c_in _ _ _ ?_ ?_ | refine m_isSheet _ ?_ ?_ ?_ | with_reducible assumption | with_reducible exact rfl | with_reducible exact trivial | (with_reducible (show (_ : Int) ≤ _); omega) | (with_reducible (show (_ : Int) < _); omega) | (with_reducible (show (_ : Nat) < _); omega) | (with_reducible (show (_ : Nat) ≤ _); omega) | with_reducible exact Or.inl rfl | with_reducible exact Or.inr rfl | with_reducible exact Or.inl trivial | with_reducible exact Or.inr trivial | (intro hz; exact absurd hz (by decide)) | (intro hz; exfalso; omega) | refine And.intro ?_ ?_ | intro _))
            refine loop 24 0 (by omega) _ _ rfl (fun c hc => by simp (disch := omega) only [up_o]) ?_ ?_ ?_ (fun q hq => ?_) (fun q q0 q1 => by omega)
            · simp (disch := omega) only [rd_uo, rd_up]; rw [w5]
            · simp (disch := omega) only [rd_uo, rd_up]; rw [rd_oo (ek 176 (by omega) (by omega) (by omega))]
            · simp (disch := omega) only [rd_uo, rd_up]; rw [rd_oo (ek 177 (by omega) (by omega) (by omega))]
            · simp (disch := omega) only [rd_uo]; rw [rd_oo (ek 178 (by omega) (by omega) (by omega))]
      · refine pair_ot hn hR0 (rd I 175 s) (fun K => K = mj_up (mj_up I (130 + 4 * s.toNat) 0 o) (130 + 4 * s.toNat) 1 k) (fun Q h => ?_) (fun K Q hK hP h150 h151 h => ?_)
        · refine x_C false [.inr (1, 0, 20, 0), .inl s, .inl o, .inl k] [] 90 hS ⟨xok_w hS, trivial, trivial, trivial, trivial⟩ ?_
          (repeat' (first | rw [s9] | refine c_isSlot _ ?_ ?_ ?_ | refine c_within _ _ _ ?_ ?_ | with_reducible assumption | with_reducible exact rfl | with_reducible exact trivial | (with_reducible (show (_ : Int) ≤ _); omega) | (with_reducible (show (_ : Int) < _); omega) | (with_reducible (show (_ : Nat) < _); omega) | (with_reducible (show (_ : Nat) ≤ _); omega) | with_reducible exact Or.inl rfl | with_reducible exact Or.inr rfl | with_reducible exact Or.inl trivial | with_reducible exact Or.inr trivial | (intro hz; exact absurd hz (by decide)) | (intro hz; exfalso; omega) | refine And.intro ?_ ?_ | intro _))
          exact h _ (fun c hc => by unfold ocl at hc; simp (disch := omega) only [mu_o]) (fun j hj => by simp (disch := omega) only [mu_o]) rfl
        · have ek : ∀ c, ¬ c = 130 + 4 * s.toNat → K c = I c := fun c h1 => by rw [hP]; simp (disch := omega) only [mu_o]
          have w5 : rd K 175 = rd I 175 := rd_oo (ek 175 (by omega))
          refine x_C false [.inr (13, 0, 150, 0), .inl s, .inl o, .inl k] [] 90 hS ⟨xok_m hS, trivial, trivial, trivial, trivial⟩ ?_
          (repeat' (first | rw [w5] | refine m_isSlot _ ?_ ?_ ?_ | refine c_in _ _ _ ?_ ?_ | with_reducible assumption | with_reducible exact rfl | with_reducible exact trivial | (with_reducible (show (_ : Int) ≤ _); omega) | (with_reducible (show (_ : Int) < _); omega) | (with_reducible (show (_ : Nat) < _); omega) | (with_reducible (show (_ : Nat) ≤ _); omega) | with_reducible exact Or.inl rfl | with_reducible exact Or.inr rfl | with_reducible exact Or.inl trivial | with_reducible exact Or.inr trivial | (intro hz; exact absurd hz (by decide)) | (intro hz; exfalso; omega) | refine And.intro ?_ ?_ | intro _))
          have ej : ∀ c, ¬ (175 ≤ c ∧ c ≤ 178) → up (up (up K 175 s o) 176 s k) 177 s 0 c = K c := fun c hc => by simp (disch := omega) only [up_o]
          obtain ⟨r1, r2, r3⟩ := fin K _ (fun c hc => ek c (by omega)) ej
          have g5 : rd (up (up (up K 175 s o) 176 s k) 177 s 0) 175 = ru (rd I 175) s o := by simp (disch := omega) only [rd_uo, rd_up]; rw [w5]
          have g6 : rd (up (up (up K 175 s o) 176 s k) 177 s 0) 176 = ru (rd I 176) s k := by simp (disch := omega) only [rd_uo, rd_up]; rw [rd_oo (ek 176 (by omega))]
          have g7 : rd (up (up (up K 175 s o) 176 s k) 177 s 0) 177 = ru (rd I 177) s 0 := by simp (disch := omega) only [rd_uo, rd_up]; rw [rd_oo (ek 177 (by omega))]
          refine h _ (fun c hc => ej c (by unfold omd at hc; omega)) (fun j _ _ => by rw [ej 150 (by omega)]) r1 r2 r3 (slf _ _ _ (fun c h1 h2 => by rw [ej c h2, ek c (by omega)]) g5 g6 g7 (fun q hq => by simp (disch := omega) only [rd_uo]; rw [rd_oo (ek 178 (by omega))]) ?_)
          unfold RL1
          rw [g5, g6, g7, ru_s, ru_s, ru_s, ej _ (by omega), hP]
          simp (disch := omega) only [mu_f, mj_up_s, mj_up_n]
          refine ⟨trivial, by omega, fun z => absurd z ho1, fun z => absurd z ho2, fun z => trivial⟩
  · refine pair_no hn hR0 (-1000000001) (fun Q h => ?_) (fun Q h => ?_)
    · refine x_C false [.inr (1, 0, 20, 0), .inl s, .inl o, .inl k] [] 60 hS ⟨xok_w hS, trivial, trivial, trivial, trivial⟩ ?_
      (repeat' (first | refine c_isSlot _ ?_ ?_ ?_ | refine c_within _ _ _ ?_ ?_ | refine c_hasRule hS hb _ ?_ ?_ ?_ ?_ | refine c_isSheet _ ?_ ?_ ?_ | with_reducible assumption | with_reducible exact rfl | with_reducible exact trivial | (with_reducible (show (_ : Int) ≤ _); omega) | (with_reducible (show (_ : Int) < _); omega) | (with_reducible (show (_ : Nat) < _); omega) | (with_reducible (show (_ : Nat) ≤ _); omega) | with_reducible exact Or.inl rfl | with_reducible exact Or.inr rfl | with_reducible exact Or.inl trivial | with_reducible exact Or.inr trivial | (intro hz; exact absurd hz (by decide)) | (intro hz; exfalso; omega) | refine And.intro ?_ ?_ | intro _))
      all_goals exact h
    · refine x_C false [.inr (13, 0, 150, 0), .inl s, .inl o, .inl k] [] 60 hS ⟨xok_m hS, trivial, trivial, trivial, trivial⟩ ?_
      (repeat' (first | refine m_isSlot _ ?_ ?_ ?_ | refine c_in _ _ _ ?_ ?_ | refine m_isRule hS _ ?_ ?_ ?_ ?_ | refine m_isSheet _ ?_ ?_ ?_ | with_reducible assumption | with_reducible exact rfl | with_reducible exact trivial | (with_reducible (show (_ : Int) ≤ _); omega) | (with_reducible (show (_ : Int) < _); omega) | (with_reducible (show (_ : Nat) < _); omega) | (with_reducible (show (_ : Nat) ≤ _); omega) | with_reducible exact Or.inl rfl | with_reducible exact Or.inr rfl | with_reducible exact Or.inl trivial | with_reducible exact Or.inr trivial | (intro hz; exact absurd hz (by decide)) | (intro hz; exfalso; omega) | refine And.intro ?_ ?_ | intro _))
      all_goals exact h
