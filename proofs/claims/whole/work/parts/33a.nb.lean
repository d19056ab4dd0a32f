/-! days, seed, offer, clear -/
theorem upd_H {I K : mj_I} {S : mj_S} {N N' : Int → Int} (hN : Inv N) (hCb : Cb I S 21 N) (es : ∀ q, ¬ (0 ≤ q ∧ q ≤ 1) → q ≠ 6 → ¬ (136 ≤ q ∧ q < 148) → N' q = N q) (h1 : 0 ≤ N' 1 ∧ N' 1 ≤ 999) (h6 : 0 ≤ N' 6 ∧ N' 6 ≤ 6) (eK : ∀ a, ¬ a = 21 → ¬ a = 27 → ¬ a = 28 → K a = I a) (e21 : ∀ j, j ≠ 14 → j ≠ 13 → j ≠ 11 → K 21 j = I 21 j) (e0 : K 21 14 = N' 0) (e1 : K 21 13 = N' 1) (e6 : K 21 11 = N' 6) (hi : ∀ o, 0 ≤ o → o < N' 6 → InvO N' o) (hc : ∀ o, 0 ≤ o → o < N' 6 → CbO K 21 N' o) : Inv N' ∧ Cb K S 21 N' := by
  have hH := hN.1
  have hCH := hCb.1
  unfold InvH at hH
  unfold CbH at hCH
  have g2 : N' 2 = N 2 := es 2 (by omega) (by omega) (by omega)
  have g3 : N' 3 = N 3 := es 3 (by omega) (by omega) (by omega)
  have g4 : N' 4 = N 4 := es 4 (by omega) (by omega) (by omega)
  have g5 : N' 5 = N 5 := es 5 (by omega) (by omega) (by omega)
  have g7 : N' 7 = N 7 := es 7 (by omega) (by omega) (by omega)
  refine ⟨Inv_u hN ?_ g5 (fun q hq => es q (by omega) (by omega) (by omega)) (fun q h0 h1 => ?_) (fun q h0 h1 => ?_) (fun q h0 h1 => ?_) hi (fun q h0 h1 => ?_), Cb_u hCb (fun a ha => eK a (by omega) (by omega) (by omega)) (eK _ (by omega) (by omega) (by omega)) ?_ g5 (fun q hq => es q (by omega) (by omega) (by omega)) (fun q h0 h1 => ?_) (fun q h0 h1 => ?_) (fun q h0 h1 => ?_) hc (fun q h0 h1 => ?_)⟩
  · unfold InvH
    omega
  · exact InvP_s (hN.2.1 q h0 (by omega)) (fun j j0 j1 => es _ (by omega) (by omega) (by omega)) (by omega)
  · exact InvS_s (hN.2.2.1 q h0 (by omega)) (fun j j0 j1 => es _ (by omega) (by omega) (by omega)) (by omega)
  · exact InvR_s (hN.2.2.2.1 q h0 (by omega)) (fun j j0 j1 => es _ (by omega) (by omega) (by omega)) (by omega)
  · exact InvL_s (hN.2.2.2.2.2.1 q h0 (by omega)) (fun j j0 j1 => es _ (by omega) (by omega) (by omega)) (by omega) (by omega)
  · unfold CbH
    rw [e0, e1, e6, e21 1 (by decide) (by decide) (by decide), e21 3 (by decide) (by decide) (by decide), e21 5 (by decide) (by decide) (by decide), e21 7 (by decide) (by decide) (by decide), eK (21 + 8) (by omega) (by omega) (by omega)]
    omega
  · exact CbP_s (hCb.2.1 q h0 (by omega)) (eK _ (by omega) (by omega) (by omega)) (fun j j0 j1 => es _ (by omega) (by omega) (by omega))
  · exact CbS_s (hCb.2.2.1 q h0 (by omega)) (eK _ (by omega) (by omega) (by omega)) (fun j j0 j1 => es _ (by omega) (by omega) (by omega))
  · exact CbR_s (hCb.2.2.2.1 q h0 (by omega)) (eK _ (by omega) (by omega) (by omega)) (fun j j0 j1 => es _ (by omega) (by omega) (by omega))
  · exact CbL_s (hCb.2.2.2.2.2.1 q h0 (by omega)) (by unfold rd; rw [eK _ (by omega) (by omega) (by omega)]) (by unfold rd; rw [eK _ (by omega) (by omega) (by omega)]) (by unfold rd; rw [eK _ (by omega) (by omega) (by omega)]) (fun j j0 j1 => es _ (by omega) (by omega) (by omega))
theorem mu_z {I : mj_I} {S : mj_S} {N : Int → Int} (hN : Inv N) (hCb : Cb I S 21 N) (z : Int) : Inv (ru N 0 z) ∧ Cb (mj_up I 21 14 z) S 21 (ru N 0 z) := by
  have hH := hN.1
  have hCH := hCb.1
  unfold InvH at hH
  unfold CbH at hCH
  refine upd_H hN hCb (fun q h1 h2 h3 => by rw [ru_n (by omega)]) (by rw [ru_n (by omega)]; omega) (by rw [ru_n (by omega)]; omega) (fun a h1 h2 h3 => mu_o h1) (fun j h1 h2 h3 => mu_f (by omega)) (by rw [mj_up_s, ru_s]) (by rw [mu_f (by omega), ru_n (by omega)]; omega) (by rw [mu_f (by omega), ru_n (by omega)]; omega) (fun o h0 h1 => ?_) (fun o h0 h1 => ?_)
  · rw [ru_n (by omega)] at h1
    exact InvO_s (hN.2.2.2.2.1 o h0 h1) (by rw [ru_n (by omega)]) (by rw [ru_n (by omega)]) (by rw [ru_n (by omega)]; omega)
  · rw [ru_n (by omega)] at h1
    exact CbO_s (hCb.2.2.2.2.1 o h0 h1) (by rw [rd_mu (by omega)]) (by rw [rd_mu (by omega)]) (by rw [ru_n (by omega)]) (by rw [ru_n (by omega)])
theorem P_seed {L : Nat} {xs : Nat → Int32} {n : Nat} (v : Int) : Pair L xs n 165 280 [.inl v] := by
  intro I S hn hR
  have hR0 := hR
  obtain ⟨hS, hO, ⟨hN, hCb⟩, hI, hTp, hWt, hSh, hSl, hMo, hCa, hBd⟩ := hR
  have hH := hN.1
  have hCH := hCb.1
  have hb : mB 21 := Or.inl rfl
  unfold InvH at hH
  unfold CbH at hCH
  obtain ⟨hIn, hCn⟩ := mu_z hN hCb v
  refine pair_nb hn hR0 (rd I 151 0) _ hIn (fun k hk => by rw [ru_n (by omega)]) (fun Q h => ?_) (fun K Q h151 h150 _ h => ?_)
  · refine x_C false [.inr (1, 0, 20, 0), .inl v] [] 30 hS ⟨xok_w hS, trivial, trivial⟩ ?_
    (repeat' (first | with_reducible assumption | with_reducible exact rfl | with_reducible exact trivial | (with_reducible (show (_ : Int) ≤ _); omega) | (with_reducible (show (_ : Int) < _); omega) | (with_reducible (show (_ : Nat) < _); omega) | (with_reducible (show (_ : Nat) ≤ _); omega) | with_reducible exact Or.inl rfl | with_reducible exact Or.inr rfl | with_reducible exact Or.inl trivial | with_reducible exact Or.inr trivial | (intro hz; exact absurd hz (by decide)) | (intro hz; exfalso; omega) | refine And.intro ?_ ?_ | intro _))
    exact Qe (h _ (fun a ha => mu_o (by unfold bk at ha; omega)) hCn) hCH.1.symm
  · refine x_C false [.inr (13, 0, 150, 0), .inl v] [] 30 hS ⟨xok_m hS, trivial, trivial⟩ ?_
    (repeat' (first | with_reducible assumption | with_reducible exact rfl | with_reducible exact trivial | (with_reducible (show (_ : Int) ≤ _); omega) | (with_reducible (show (_ : Int) < _); omega) | (with_reducible (show (_ : Nat) < _); omega) | (with_reducible (show (_ : Nat) ≤ _); omega) | with_reducible exact Or.inl rfl | with_reducible exact Or.inr rfl | with_reducible exact Or.inl trivial | with_reducible exact Or.inr trivial | (intro hz; exact absurd hz (by decide)) | (intro hz; exfalso; omega) | refine And.intro ?_ ?_ | intro _))
    exact Qe (h _ (fr.refl.up (Or.inr (Or.inl rfl)) _ _) (by rw [rd_up (by decide) (by decide), h151]) (up_o (by decide))) (by rw [h151])
theorem P_clear {L : Nat} {xs : Nat → Int32} {n : Nat} : Pair L xs n 147 266 [] := by
  intro I S hn hR
  have hR0 := hR
  obtain ⟨hS, hO, ⟨hN, hCb⟩, hI, hTp, hWt, hSh, hSl, hMo, hCa, hBd⟩ := hR
  have hH := hN.1
  have hCH := hCb.1
  have hb : mB 21 := Or.inl rfl
  unfold InvH at hH
  unfold CbH at hCH
  obtain ⟨hIn, hCn⟩ := upd_H (K := mj_up I 21 11 0) (N' := ru (rd I 151) 6 0) hN hCb (fun q h1 h2 h3 => by rw [ru_n (by omega)]) (by rw [ru_n (by omega)]; omega) (by rw [ru_s]; omega) (fun a h1 h2 h3 => mu_o h1) (fun j h1 h2 h3 => mu_f (by omega)) (by rw [mu_f (by omega), ru_n (by omega)]; omega) (by rw [mu_f (by omega), ru_n (by omega)]; omega) (by rw [mj_up_s, ru_s]) (fun o h0 h1 => by rw [ru_s] at h1; omega) (fun o h0 h1 => by rw [ru_s] at h1; omega)
  refine pair_nb hn hR0 (rd I 151 6) _ hIn (fun k hk => by rw [ru_n (by omega)]) (fun Q h => ?_) (fun K Q h151 h150 _ h => ?_)
  · refine x_C false [.inr (1, 0, 20, 0)] [] 30 hS ⟨xok_w hS, trivial⟩ ?_
    (repeat' (first | with_reducible assumption | with_reducible exact rfl | with_reducible exact trivial | (with_reducible (show (_ : Int) ≤ _); omega) | (with_reducible (show (_ : Int) < _); omega) | (with_reducible (show (_ : Nat) < _); omega) | (with_reducible (show (_ : Nat) ≤ _); omega) | with_reducible exact Or.inl rfl | with_reducible exact Or.inr rfl | with_reducible exact Or.inl trivial | with_reducible exact Or.inr trivial | (intro hz; exact absurd hz (by decide)) | (intro hz; exfalso; omega) | refine And.intro ?_ ?_ | intro _))
    exact Qe (h _ (fun a ha => mu_o (by unfold bk at ha; omega)) hCn) (by omega)
  · refine x_C false [.inr (13, 0, 150, 0)] [] 30 hS ⟨xok_m hS, trivial⟩ ?_
    (repeat' (first | with_reducible assumption | with_reducible exact rfl | with_reducible exact trivial | (with_reducible (show (_ : Int) ≤ _); omega) | (with_reducible (show (_ : Int) < _); omega) | (with_reducible (show (_ : Nat) < _); omega) | (with_reducible (show (_ : Nat) ≤ _); omega) | with_reducible exact Or.inl rfl | with_reducible exact Or.inr rfl | with_reducible exact Or.inl trivial | with_reducible exact Or.inr trivial | (intro hz; exact absurd hz (by decide)) | (intro hz; exfalso; omega) | refine And.intro ?_ ?_ | intro _))
    exact Qe (h _ (fr.refl.up (Or.inr (Or.inl rfl)) _ _) (by rw [rd_up (by decide) (by decide), h151]) (up_o (by decide))) (by rw [h151])
theorem P_days {L : Nat} {xs : Nat → Int32} {n : Nat} (v : Int) : Pair L xs n 39 217 [.inl v] := by
  intro I S hn hR
  have hR0 := hR
  obtain ⟨hS, hO, ⟨hN, hCb⟩, hI, hTp, hWt, hSh, hSl, hMo, hCa, hBd⟩ := hR
  have hH := hN.1
  have hCH := hCb.1
  have hb : mB 21 := Or.inl rfl
  unfold InvH at hH
  unfold CbH at hCH
  by_cases hv : 1 ≤ v ∧ v ≤ 99
  · by_cases hf : 999 < rd I 151 1 + v
    · refine pair_no hn hR0 (-1000000003) (fun Q h => ?_) (fun Q h => ?_)
      · refine x_C false [.inr (1, 0, 20, 0), .inl v] [] 30 hS ⟨xok_w hS, trivial, trivial⟩ ?_
        (repeat' (first | refine c_within _ _ _ ?_ ?_ | with_reducible assumption | with_reducible exact rfl | with_reducible exact trivial | (with_reducible (show (_ : Int) ≤ _); omega) | (with_reducible (show (_ : Int) < _); omega) | (with_reducible (show (_ : Nat) < _); omega) | (with_reducible (show (_ : Nat) ≤ _); omega) | with_reducible exact Or.inl rfl | with_reducible exact Or.inr rfl | with_reducible exact Or.inl trivial | with_reducible exact Or.inr trivial | (intro hz; exact absurd hz (by decide)) | (intro hz; exfalso; omega) | refine And.intro ?_ ?_ | intro _))
        all_goals exact h
      · refine x_C false [.inr (13, 0, 150, 0), .inl v] [] 30 hS ⟨xok_m hS, trivial, trivial⟩ ?_
        (repeat' (first | refine c_in _ _ _ ?_ ?_ | with_reducible assumption | with_reducible exact rfl | with_reducible exact trivial | (with_reducible (show (_ : Int) ≤ _); omega) | (with_reducible (show (_ : Int) < _); omega) | (with_reducible (show (_ : Nat) < _); omega) | (with_reducible (show (_ : Nat) ≤ _); omega) | with_reducible exact Or.inl rfl | with_reducible exact Or.inr rfl | with_reducible exact Or.inl trivial | with_reducible exact Or.inr trivial | (intro hz; exact absurd hz (by decide)) | (intro hz; exfalso; omega) | refine And.intro ?_ ?_ | intro _))
        all_goals exact h
    · have e13 : I 21 13 = rd I 151 1 := hCH.2.1
      obtain ⟨hIn, hCn⟩ := upd_H (K := mj_up I 21 13 (rd I 151 1 + v)) (N' := ru (rd I 151) 1 (rd I 151 1 + v)) hN hCb (fun q h1 h2 h3 => by rw [ru_n (by omega)]) (by rw [ru_s]; omega) (by rw [ru_n (by omega)]; omega) (fun a h1 h2 h3 => mu_o h1) (fun j h1 h2 h3 => mu_f (by omega)) (by rw [mu_f (by omega), ru_n (by omega)]; omega) (by rw [mj_up_s, ru_s]) (by rw [mu_f (by omega), ru_n (by omega)]; omega)
        (fun o h0 h1 => by
          rw [ru_n (by omega)] at h1
          exact InvO_s (hN.2.2.2.2.1 o h0 h1) (by rw [ru_n (by omega)]) (by rw [ru_n (by omega)]) (by rw [ru_n (by omega)]; omega))
        (fun o h0 h1 => by
          rw [ru_n (by omega)] at h1
          exact CbO_s (hCb.2.2.2.2.1 o h0 h1) (by rw [rd_mu (by omega)]) (by rw [rd_mu (by omega)]) (by rw [ru_n (by omega)]) (by rw [ru_n (by omega)]))
      refine pair_nb hn hR0 (rd I 151 1 + v) _ hIn (fun k hk => by rw [ru_n (by omega)]) (fun Q h => ?_) (fun K Q h151 h150 _ h => ?_)
      · refine x_C false [.inr (1, 0, 20, 0), .inl v] [] 30 hS ⟨xok_w hS, trivial, trivial⟩ ?_
        (repeat' (first | rw [e13] | rw [mj_up_s] | refine c_within _ _ _ ?_ ?_ | with_reducible assumption | with_reducible exact rfl | with_reducible exact trivial | (with_reducible (show (_ : Int) ≤ _); omega) | (with_reducible (show (_ : Int) < _); omega) | (with_reducible (show (_ : Nat) < _); omega) | (with_reducible (show (_ : Nat) ≤ _); omega) | with_reducible exact Or.inl rfl | with_reducible exact Or.inr rfl | with_reducible exact Or.inl trivial | with_reducible exact Or.inr trivial | (intro hz; exact absurd hz (by decide)) | (intro hz; exfalso; omega) | refine And.intro ?_ ?_ | intro _))
        exact h _ (fun a ha => mu_o (by unfold bk at ha; omega)) hCn
      · refine x_C false [.inr (13, 0, 150, 0), .inl v] [] 30 hS ⟨xok_m hS, trivial, trivial⟩ ?_
        (repeat' (first | rw [h151] | simp (disch := omega) only [rd_up, rd_uo, rd_mu, up_f, mu_f, mj_up_s, ru_s, ru_n] | refine c_in _ _ _ ?_ ?_ | with_reducible assumption | with_reducible exact rfl | with_reducible exact trivial | (with_reducible (show (_ : Int) ≤ _); omega) | (with_reducible (show (_ : Int) < _); omega) | (with_reducible (show (_ : Nat) < _); omega) | (with_reducible (show (_ : Nat) ≤ _); omega) | with_reducible exact Or.inl rfl | with_reducible exact Or.inr rfl | with_reducible exact Or.inl trivial | with_reducible exact Or.inr trivial | (intro hz; exact absurd hz (by decide)) | (intro hz; exfalso; omega) | refine And.intro ?_ ?_ | intro _))
        exact h _ (fr.refl.up (Or.inr (Or.inl rfl)) _ _) (by rw [rd_up (by decide) (by decide), h151]) (up_o (by decide))
  · refine pair_no hn hR0 (-1000000001) (fun Q h => ?_) (fun Q h => ?_)
    · refine x_C false [.inr (1, 0, 20, 0), .inl v] [] 30 hS ⟨xok_w hS, trivial, trivial⟩ ?_
      (repeat' (first | refine c_within _ _ _ ?_ ?_ | with_reducible assumption | with_reducible exact rfl | with_reducible exact trivial | (with_reducible (show (_ : Int) ≤ _); omega) | (with_reducible (show (_ : Int) < _); omega) | (with_reducible (show (_ : Nat) < _); omega) | (with_reducible (show (_ : Nat) ≤ _); omega) | with_reducible exact Or.inl rfl | with_reducible exact Or.inr rfl | with_reducible exact Or.inl trivial | with_reducible exact Or.inr trivial | (intro hz; exact absurd hz (by decide)) | (intro hz; exfalso; omega) | refine And.intro ?_ ?_ | intro _))
      all_goals exact h
    · refine x_C false [.inr (13, 0, 150, 0), .inl v] [] 30 hS ⟨xok_m hS, trivial, trivial⟩ ?_
      (repeat' (first | refine c_in _ _ _ ?_ ?_ | with_reducible assumption | with_reducible exact rfl | with_reducible exact trivial | (with_reducible (show (_ : Int) ≤ _); omega) | (with_reducible (show (_ : Int) < _); omega) | (with_reducible (show (_ : Nat) < _); omega) | (with_reducible (show (_ : Nat) ≤ _); omega) | with_reducible exact Or.inl rfl | with_reducible exact Or.inr rfl | with_reducible exact Or.inl trivial | with_reducible exact Or.inr trivial | (intro hz; exact absurd hz (by decide)) | (intro hz; exfalso; omega) | refine And.intro ?_ ?_ | intro _))
      all_goals exact h
theorem P_offer {L : Nat} {xs : Nat → Int32} {n : Nat} (v w : Int) : Pair L xs n 146 265 [.inl v, .inl w] := by
  intro I S hn hR
  have hR0 := hR
  obtain ⟨hS, hO, ⟨hN, hCb⟩, hI, hTp, hWt, hSh, hSl, hMo, hCa, hBd⟩ := hR
  have hH := hN.1
  have hCH := hCb.1
  have hb : mB 21 := Or.inl rfl
  unfold InvH at hH
  unfold CbH at hCH
  by_cases hv : (0 ≤ v ∧ v < rd I 151 2) ∧ 0 ≤ w ∧ w ≤ 7
  · by_cases hf : rd I 151 6 = 6
    · refine pair_no hn hR0 (-1000000003) (fun Q h => ?_) (fun Q h => ?_)
      · refine x_C false [.inr (1, 0, 20, 0), .inl v, .inl w] [] 40 hS ⟨xok_w hS, trivial, trivial, trivial⟩ ?_
        (repeat' (first | refine c_hasPerson hS hb _ ?_ ?_ ?_ ?_ | refine c_within _ _ _ ?_ ?_ | with_reducible assumption | with_reducible exact rfl | with_reducible exact trivial | (with_reducible (show (_ : Int) ≤ _); omega) | (with_reducible (show (_ : Int) < _); omega) | (with_reducible (show (_ : Nat) < _); omega) | (with_reducible (show (_ : Nat) ≤ _); omega) | with_reducible exact Or.inl rfl | with_reducible exact Or.inr rfl | with_reducible exact Or.inl trivial | with_reducible exact Or.inr trivial | (intro hz; exact absurd hz (by decide)) | (intro hz; exfalso; omega) | refine And.intro ?_ ?_ | intro _))
        all_goals exact h
      · refine x_C false [.inr (13, 0, 150, 0), .inl v, .inl w] [] 40 hS ⟨xok_m hS, trivial, trivial, trivial⟩ ?_
        (repeat' (first | refine m_isPerson hS _ ?_ ?_ ?_ ?_ | refine c_in _ _ _ ?_ ?_ | with_reducible assumption | with_reducible exact rfl | with_reducible exact trivial | (with_reducible (show (_ : Int) ≤ _); omega) | (with_reducible (show (_ : Int) < _); omega) | (with_reducible (show (_ : Nat) < _); omega) | (with_reducible (show (_ : Nat) ≤ _); omega) | with_reducible exact Or.inl rfl | with_reducible exact Or.inr rfl | with_reducible exact Or.inl trivial | with_reducible exact Or.inr trivial | (intro hz; exact absurd hz (by decide)) | (intro hz; exfalso; omega) | refine And.intro ?_ ?_ | intro _))
        all_goals exact h
    · generalize hN0 : rd I 151 = N at *
      generalize hp : N 6 = p at *
      have ep : I 21 11 = p := by omega
      obtain ⟨hIn, hCn⟩ := upd_H (K := mj_up (up (up I (21 + 6) p v) (21 + 7) p w) 21 11 (p + 1)) (N' := ru (ru (ru N (136 + 2 * p) v) (136 + 2 * p + 1) w) 6 (p + 1)) hN hCb (fun q h1 h2 h3 => by rw [ru_n (by omega), ru_n (by omega), ru_n (by omega)]) (by rw [ru_n (by omega), ru_n (by omega), ru_n (by omega)]; omega) (by rw [ru_s]; omega) (fun a h1 h2 h3 => by rw [mu_o h1, up_o (by omega), up_o (by omega)]) (fun j h1 h2 h3 => by rw [mu_f (by omega), up_f (by omega), up_f (by omega)]) (by rw [mu_f (by omega), up_f (by omega), up_f (by omega), ru_n (by omega), ru_n (by omega), ru_n (by omega)]; omega) (by rw [mu_f (by omega), up_f (by omega), up_f (by omega), ru_n (by omega), ru_n (by omega), ru_n (by omega)]; omega) (by rw [mj_up_s, ru_s])
        (fun o h0 h1 => by
          rw [ru_s] at h1
          by_cases e : o = p
          · subst e
            unfold InvO
            simp (disch := omega) only [ru_s, ru_n]
            omega
          · exact InvO_s (hN.2.2.2.2.1 o h0 (by omega)) (by simp (disch := omega) only [ru_n]) (by simp (disch := omega) only [ru_n]) (by simp (disch := omega) only [ru_n]; omega))
        (fun o h0 h1 => by
          rw [ru_s] at h1
          by_cases e : o = p
          · subst e
            unfold CbO
            simp (disch := omega) only [rd_mu, rd_up, rd_uo, ru_s, ru_n]
            exact ⟨trivial, trivial⟩
          · exact CbO_s (hCb.2.2.2.2.1 o h0 (by omega)) (by simp (disch := omega) only [rd_mu, rd_up, rd_uo, ru_n]) (by simp (disch := omega) only [rd_mu, rd_up, rd_uo, ru_n]) (by simp (disch := omega) only [ru_n]) (by simp (disch := omega) only [ru_n]))
      refine pair_nb hn hR0 p _ hIn (fun k hk => by rw [hN0, ru_n (by omega), ru_n (by omega), ru_n (by omega)]) (fun Q h => ?_) (fun K Q h151 h150 _ h => ?_)
      · refine x_C false [.inr (1, 0, 20, 0), .inl v, .inl w] [] 60 hS ⟨xok_w hS, trivial, trivial, trivial⟩ ?_
        (repeat' (first | rw [ep] | rw [mj_up_s] | rw [up_f (by decide)] | refine c_hasPerson hS hb _ ?_ ?_ ?_ ?_ | refine c_within _ _ _ ?_ ?_ | with_reducible assumption | with_reducible exact rfl | with_reducible exact trivial | (with_reducible (show (_ : Int) ≤ _); omega) | (with_reducible (show (_ : Int) < _); omega) | (with_reducible (show (_ : Nat) < _); omega) | (with_reducible (show (_ : Nat) ≤ _); omega) | with_reducible exact Or.inl rfl | with_reducible exact Or.inr rfl | with_reducible exact Or.inl trivial | with_reducible exact Or.inr trivial | (intro hz; exact absurd hz (by decide)) | (intro hz; exfalso; omega) | refine And.intro ?_ ?_ | intro _))
        refine Qe (h _ (fun a ha => ?_) hCn) (by omega)
        unfold bk at ha
        rw [mu_o (by omega), up_o (by omega), up_o (by omega)]
      · rw [hN0] at h151
        refine x_C false [.inr (13, 0, 150, 0), .inl v, .inl w] [] 80 hS ⟨xok_m hS, trivial, trivial, trivial⟩ ?_
        (repeat' (first | rw [h151] | rw [hp] | refine m_isPerson hS _ ?_ ?_ ?_ ?_ | refine c_in _ _ _ ?_ ?_ | simp (disch := omega) only [rd_up, rd_uo, rd_mu, up_f, mu_f, mj_up_s, ru_s, ru_n] | with_reducible assumption | with_reducible exact rfl | with_reducible exact trivial | (with_reducible (show (_ : Int) ≤ _); omega) | (with_reducible (show (_ : Int) < _); omega) | (with_reducible (show (_ : Nat) < _); omega) | (with_reducible (show (_ : Nat) ≤ _); omega) | with_reducible exact Or.inl rfl | with_reducible exact Or.inr rfl | with_reducible exact Or.inl trivial | with_reducible exact Or.inr trivial | (intro hz; exact absurd hz (by decide)) | (intro hz; exfalso; omega) | refine And.intro ?_ ?_ | intro _))
        refine Qe (h _ (((fr.refl.up (Or.inr (Or.inl rfl)) _ _).up (Or.inr (Or.inl rfl)) _ _).up (Or.inr (Or.inl rfl)) _ _) ?_ ?_) (by omega)
        · simp (disch := omega) only [rd_up, h151]
        · rw [up_o (by decide), up_o (by decide), up_o (by decide)]
  · refine pair_no hn hR0 (-1000000001) (fun Q h => ?_) (fun Q h => ?_)
    · refine x_C false [.inr (1, 0, 20, 0), .inl v, .inl w] [] 40 hS ⟨xok_w hS, trivial, trivial, trivial⟩ ?_
      (repeat' (first | refine c_hasPerson hS hb _ ?_ ?_ ?_ ?_ | refine c_within _ _ _ ?_ ?_ | with_reducible assumption | with_reducible exact rfl | with_reducible exact trivial | (with_reducible (show (_ : Int) ≤ _); omega) | (with_reducible (show (_ : Int) < _); omega) | (with_reducible (show (_ : Nat) < _); omega) | (with_reducible (show (_ : Nat) ≤ _); omega) | with_reducible exact Or.inl rfl | with_reducible exact Or.inr rfl | with_reducible exact Or.inl trivial | with_reducible exact Or.inr trivial | (intro hz; exact absurd hz (by decide)) | (intro hz; exfalso; omega) | refine And.intro ?_ ?_ | intro _))
      all_goals exact h
    · refine x_C false [.inr (13, 0, 150, 0), .inl v, .inl w] [] 40 hS ⟨xok_m hS, trivial, trivial, trivial⟩ ?_
      (repeat' (first | refine m_isPerson hS _ ?_ ?_ ?_ ?_ | refine c_in _ _ _ ?_ ?_ | with_reducible assumption | with_reducible exact rfl | with_reducible exact trivial | (with_reducible (show (_ : Int) ≤ _); omega) | (with_reducible (show (_ : Int) < _); omega) | (with_reducible (show (_ : Nat) < _); omega) | (with_reducible (show (_ : Nat) ≤ _); omega) | with_reducible exact Or.inl rfl | with_reducible exact Or.inr rfl | with_reducible exact Or.inl trivial | with_reducible exact Or.inr trivial | (intro hz; exact absurd hz (by decide)) | (intro hz; exfalso; omega) | refine And.intro ?_ ?_ | intro _))
      all_goals exact h
