/-! mark -/
theorem P_mark {L : Nat} {xs : Nat → Int32} {n : Nat} (s p v : Int) : Pair L xs n 172 284 [.inl s, .inl p, .inl v] := by
  intro I S hn hR
  have hR0 := hR
  obtain ⟨hS, hO, ⟨hN, hCb⟩, hI, hTp, hWt, hSh, hSl, hMo, hCa, hBd⟩ := hR
  have hH := hN.1
  have hCH := hCb.1
  have hb : mB 21 := Or.inl rfl
  unfold InvH at hH
  unfold CbH at hCH
  by_cases hs : 0 ≤ s ∧ s ≤ 3
  · obtain ⟨q1, q2, q3, q4, q5⟩ := hSh s (by omega) (by omega)
    obtain ⟨o1, o2, o3⟩ := ok_sh hS hs
    by_cases hm1 : rd I 172 s = -1
    · refine pair_no hn hR0 (-1000000011) (fun Q h => ?_) (fun Q h => ?_)
      · refine x_C false [.inr (1, 0, 20, 0), .inl s, .inl p, .inl v] [] 40 hS ⟨xok_w hS, trivial, trivial, trivial, trivial⟩ ?_
        (repeat' (first | refine c_isSheet _ ?_ ?_ ?_ | with_reducible assumption | with_reducible exact rfl | with_reducible exact trivial | (with_reducible (show (_ : Int) ≤ _); omega) | (with_reducible (show (_ : Int) < _); omega) | (with_reducible (show (_ : Nat) < _); omega) | (with_reducible (show (_ : Nat) ≤ _); omega) | with_reducible exact Or.inl rfl | with_reducible exact Or.inr rfl | with_reducible exact Or.inl trivial | with_reducible exact Or.inr trivial | (intro hz; exact absurd hz (by decide)) | (intro hz; exfalso; omega) | refine And.intro ?_ ?_ | intro _))
        all_goals exact h
      · refine x_C false [.inr (13, 0, 150, 0), .inl s, .inl p, .inl v] [] 40 hS ⟨xok_m hS, trivial, trivial, trivial, trivial⟩ ?_
        (repeat' (first | refine m_isSheet _ ?_ ?_ ?_ | with_reducible assumption | with_reducible exact rfl | with_reducible exact trivial | (with_reducible (show (_ : Int) ≤ _); omega) | (with_reducible (show (_ : Int) < _); omega) | (with_reducible (show (_ : Nat) < _); omega) | (with_reducible (show (_ : Nat) ≤ _); omega) | with_reducible exact Or.inl rfl | with_reducible exact Or.inr rfl | with_reducible exact Or.inl trivial | with_reducible exact Or.inr trivial | (intro hz; exact absurd hz (by decide)) | (intro hz; exfalso; omega) | refine And.intro ?_ ?_ | intro _))
        all_goals exact h
    · by_cases hp : 0 ≤ p ∧ p < rd I 173 s
      · have hx : ∃ x : Int, x = (if rd I 172 s = 0 then (if v = 0 then 0 else 1) else mj_b8 v) := ⟨_, rfl⟩
        obtain ⟨x, hx⟩ := hx
        have qp := q5 p (by omega) (by omega)
        have e0 : I (122 + 2 * s.toNat) 0 = rd I 172 s := q1
        have b1 : mj_b8 (mj_b8 1) = 1 := by decide +kernel
        have b0 : mj_b8 (mj_b8 0) = 0 := by decide +kernel
        refine pair_ot hn hR0 (rd I 174 (24 * s + p)) (fun K => K = up I (122 + 2 * s.toNat + 1) p x) (fun Q h => ?_) (fun K Q hK hP h150 h151 h => ?_)
        · have key : ∀ y, y = x → Q (some (.inl (rd I (122 + 2 * s.toNat + 1) p))) (up I (122 + 2 * s.toNat + 1) p y) S := by
            intro y hy
            subst hy
            exact Qe (h _ ((fr.refl (X := ocl)).up (by unfold ocl; omega) _ _) (fun k hk => up_f (by omega)) rfl) qp.symm
          refine x_C false [.inr (1, 0, 20, 0), .inl s, .inl p, .inl v] [] 60 hS ⟨xok_w hS, trivial, trivial, trivial, trivial⟩ ?_
          (repeat' (first | rw [e0] | refine c_isSheet _ ?_ ?_ ?_ | refine c_hasPlace hS _ _ o3 ?_ o1 ?_ ?_ ?_ | refine c_oneIf _ ?_ ?_ | with_reducible assumption | with_reducible exact rfl | with_reducible exact trivial | (with_reducible (show (_ : Int) ≤ _); omega) | (with_reducible (show (_ : Int) < _); omega) | (with_reducible (show (_ : Nat) < _); omega) | (with_reducible (show (_ : Nat) ≤ _); omega) | with_reducible exact Or.inl rfl | with_reducible exact Or.inr rfl | with_reducible exact Or.inl trivial | with_reducible exact Or.inr trivial | (intro hz; exact absurd hz (by decide)) | (intro hz; exfalso; omega) | refine And.intro ?_ ?_ | intro _))
          · exact key _ (by rw [b8_8, hx, if_neg (by omega)])
          · exact key _ (by rw [b0, hx, if_pos (by omega), if_pos (by omega)])
          · exact key _ (by rw [b1, hx, if_pos (by omega), if_neg (by omega)])
        · subst hP
          have w2 : rd (up I (122 + 2 * s.toNat + 1) p x) 172 = rd I 172 := rd_uo (by omega)
          have w3 : rd (up I (122 + 2 * s.toNat + 1) p x) 173 = rd I 173 := rd_uo (by omega)
          have w4 : rd (up I (122 + 2 * s.toNat + 1) p x) 174 = rd I 174 := rd_uo (by omega)
          have key : ∀ y, y = x → Q (some (.inl (rd I 174 (24 * s + p)))) (up (up I (122 + 2 * s.toNat + 1) p x) 174 (24 * s + p) y) S := by
            intro y hy
            subst hy
            refine h _ ((fr.refl (X := omd)).up (by unfold omd; omega) _ _) (fun k h8 h47 => up_f (by omega)) ?_ ?_ ?_ ?_
            · exact RT_s hTp (by simp (disch := omega) only [up_f]) (by simp (disch := omega) only [up_f]) (by simp (disch := omega) only [rd_uo]) (by simp (disch := omega) only [rd_uo])
            · exact RW_s hWt (by simp (disch := omega) only [up_f]) (by simp (disch := omega) only [up_f]) (by simp (disch := omega) only [rd_uo]) (by simp (disch := omega) only [rd_uo])
            · intro t t0 t1
              have hq := hSh t t0 t1
              unfold RS1 at hq ⊢
              rw [up_f (by omega), up_f (by omega), up_f (by omega), up_f (by omega), rd_uo (a := 174) (b := 172) (by omega), w2, rd_uo (a := 174) (b := 173) (by omega), w3, rd_uo (a := 174) (by omega), rd_up (a := 174) (by omega) (by omega), w4]
              refine ⟨hq.1, hq.2.1, hq.2.2.1, hq.2.2.2.1, fun k k0 k1 => ?_⟩
              by_cases e : t = s
              · subst e
                rw [rd_up (by omega) (by omega)]
                by_cases e2 : k = p
                · subst e2
                  rw [ru_s, ru_s]
                · rw [ru_n e2, ru_n (by omega)]
                  exact hq.2.2.2.2 k k0 k1
              · rw [rd_uo (by omega), ru_n (by omega)]
                exact hq.2.2.2.2 k k0 k1
            · exact RSl_s hSl (fun a h1 h2 => by simp (disch := omega) only [up_o]) (by simp (disch := omega) only [rd_uo]) (by simp (disch := omega) only [rd_uo]) (by simp (disch := omega) only [rd_uo]) (by simp (disch := omega) only [rd_uo])
          refine x_C false [.inr (13, 0, 150, 0), .inl s, .inl p, .inl v] [] 70 hS ⟨xok_m hS, trivial, trivial, trivial, trivial⟩ ?_
          (repeat' (first | rw [w2] | rw [w3] | rw [w4] | refine m_isSheet _ ?_ ?_ ?_ | refine c_in _ _ _ ?_ ?_ | with_reducible assumption | with_reducible exact rfl | with_reducible exact trivial | (with_reducible (show (_ : Int) ≤ _); omega) | (with_reducible (show (_ : Int) < _); omega) | (with_reducible (show (_ : Nat) < _); omega) | (with_reducible (show (_ : Nat) ≤ _); omega) | with_reducible exact Or.inl rfl | with_reducible exact Or.inr rfl | with_reducible exact Or.inl trivial | with_reducible exact Or.inr trivial | (intro hz; exact absurd hz (by decide)) | (intro hz; exfalso; omega) | refine And.intro ?_ ?_ | intro _))
          · exact key _ (by rw [hx, if_neg (by omega)])
          · exact key _ (by rw [hx, if_pos (by omega), if_pos (by omega)])
          · exact key _ (by rw [hx, if_pos (by omega), if_neg (by omega)])
      · refine pair_no hn hR0 (-1000000013) (fun Q h => ?_) (fun Q h => ?_)
        · refine x_C false [.inr (1, 0, 20, 0), .inl s, .inl p, .inl v] [] 40 hS ⟨xok_w hS, trivial, trivial, trivial, trivial⟩ ?_
          (repeat' (first | refine c_isSheet _ ?_ ?_ ?_ | refine c_hasPlace hS _ _ o3 ?_ o1 ?_ ?_ ?_ | with_reducible assumption | with_reducible exact rfl | with_reducible exact trivial | (with_reducible (show (_ : Int) ≤ _); omega) | (with_reducible (show (_ : Int) < _); omega) | (with_reducible (show (_ : Nat) < _); omega) | (with_reducible (show (_ : Nat) ≤ _); omega) | with_reducible exact Or.inl rfl | with_reducible exact Or.inr rfl | with_reducible exact Or.inl trivial | with_reducible exact Or.inr trivial | (intro hz; exact absurd hz (by decide)) | (intro hz; exfalso; omega) | refine And.intro ?_ ?_ | intro _))
          all_goals exact h
        · refine x_C false [.inr (13, 0, 150, 0), .inl s, .inl p, .inl v] [] 40 hS ⟨xok_m hS, trivial, trivial, trivial, trivial⟩ ?_
          (repeat' (first | refine m_isSheet _ ?_ ?_ ?_ | refine c_in _ _ _ ?_ ?_ | with_reducible assumption | with_reducible exact rfl | with_reducible exact trivial | (with_reducible (show (_ : Int) ≤ _); omega) | (with_reducible (show (_ : Int) < _); omega) | (with_reducible (show (_ : Nat) < _); omega) | (with_reducible (show (_ : Nat) ≤ _); omega) | with_reducible exact Or.inl rfl | with_reducible exact Or.inr rfl | with_reducible exact Or.inl trivial | with_reducible exact Or.inr trivial | (intro hz; exact absurd hz (by decide)) | (intro hz; exfalso; omega) | refine And.intro ?_ ?_ | intro _))
          all_goals exact h
  · refine pair_no hn hR0 (-1000000001) (fun Q h => ?_) (fun Q h => ?_)
    · refine x_C false [.inr (1, 0, 20, 0), .inl s, .inl p, .inl v] [] 40 hS ⟨xok_w hS, trivial, trivial, trivial, trivial⟩ ?_
      (repeat' (first | refine c_isSheet _ ?_ ?_ ?_ | with_reducible assumption | with_reducible exact rfl | with_reducible exact trivial | (with_reducible (show (_ : Int) ≤ _); omega) | (with_reducible (show (_ : Int) < _); omega) | (with_reducible (show (_ : Nat) < _); omega) | (with_reducible (show (_ : Nat) ≤ _); omega) | with_reducible exact Or.inl rfl | with_reducible exact Or.inr rfl | with_reducible exact Or.inl trivial | with_reducible exact Or.inr trivial | (intro hz; exact absurd hz (by decide)) | (intro hz; exfalso; omega) | refine And.intro ?_ ?_ | intro _))
      all_goals exact h
    · refine x_C false [.inr (13, 0, 150, 0), .inl s, .inl p, .inl v] [] 40 hS ⟨xok_m hS, trivial, trivial, trivial, trivial⟩ ?_
      (repeat' (first | refine m_isSheet _ ?_ ?_ ?_ | with_reducible assumption | with_reducible exact rfl | with_reducible exact trivial | (with_reducible (show (_ : Int) ≤ _); omega) | (with_reducible (show (_ : Int) < _); omega) | (with_reducible (show (_ : Nat) < _); omega) | (with_reducible (show (_ : Nat) ≤ _); omega) | with_reducible exact Or.inl rfl | with_reducible exact Or.inr rfl | with_reducible exact Or.inl trivial | with_reducible exact Or.inr trivial | (intro hz; exact absurd hz (by decide)) | (intro hz; exfalso; omega) | refine And.intro ?_ ?_ | intro _))
      all_goals exact h
