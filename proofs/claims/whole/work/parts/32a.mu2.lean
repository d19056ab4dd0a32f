/-! calls that change the book: away, stand -/
theorem P_away {L : Nat} {xs : Nat → Int32} {n : Nat} (v f t : Int) : Pair L xs n 27 208 [.inl v, .inl f, .inl t] := by
  intro I S hn hR
  have hR0 := hR
  obtain ⟨hS, hO, ⟨hN, hCb⟩, hI, hTp, hWt, hSh, hSl, hMo, hCa, hBd⟩ := hR
  have hH := hN.1
  have hCH := hCb.1
  have hb : mB 21 := Or.inl rfl
  unfold InvH at hH
  unfold CbH at hCH
  by_cases hv : (0 ≤ v ∧ v < rd I 151 2) ∧ (0 ≤ f ∧ f ≤ 999) ∧ (0 ≤ t ∧ t ≤ 999)
  · have hPv := hN.2.1 v hv.1.1 hv.1.2
    have hCv := hCb.2.1 v hv.1.1 hv.1.2
    generalize hN0 : rd I 151 = N at *
    have es : ∀ q, q ≠ 2 → ¬ (8 + 8 * v ≤ q ∧ q < 16 + 8 * v) → ru (ru N (8 + 8 * v + 4) f) (8 + 8 * v + 5) t q = N q := fun q h1 h2 => by
      rw [ru_n (by omega), ru_n (by omega)]
    have g2 : ru (ru N (8 + 8 * v + 4) f) (8 + 8 * v + 5) t 2 = N 2 := by rw [ru_n (by omega), ru_n (by omega)]
    obtain ⟨hIn, hCn⟩ := upd_P (K := mj_up (mj_up I (21 + 15 + v.toNat) 4 f) (21 + 15 + v.toNat) 5 t) (N' := ru (ru N (8 + 8 * v + 4) f) (8 + 8 * v + 5) t) hN hCb (p := v) (by omega) es (Or.inl g2) (by omega)
      (by
        unfold InvP at hPv ⊢
        simp (disch := omega) only [ru_s, ru_n]
        omega)
      (fun a h1 h2 => by simp (disch := omega) only [mu_o]) (fun j hj => by simp (disch := omega) only [mu_f]) (by simp (disch := omega) only [mu_f]; omega)
      (by
        unfold CbP at hCv ⊢
        simp (disch := omega) only [ru_s, ru_n, mu_f, mj_up_s]
        exact ⟨hCv.1, hCv.2.1, hCv.2.2.1, hCv.2.2.2.1, trivial, trivial, hCv.2.2.2.2.2.2⟩)
    refine pair_mu hn hR0 (if f ≤ N 1 ∧ N 1 ≤ t then 1 else 0) _ hIn 1 (by omega) (fun Q h => ?_) (fun K Q h151 h150 _ h => ?_)
    · have e13 : mj_up (mj_up I (21 + 15 + v.toNat) 4 f) (21 + 15 + v.toNat) 5 t 21 13 = N 1 := by simp (disch := omega) only [mu_f]; omega
      refine x_C false [.inr (1, 0, 20, 0), .inl v, .inl f, .inl t] [] 60 hS ⟨xok_w hS, trivial, trivial, trivial, trivial⟩ ?_
      (repeat' (first | rw [e13] | exact tg_P hS hb (by omega) (by omega) | refine c_hasPerson hS hb _ ?_ ?_ ?_ ?_ | refine c_isDay _ ?_ ?_ ?_ | refine c_isAway _ _ ?_ ?_ ?_ | refine c_oneIf _ ?_ ?_ | with_reducible assumption | with_reducible exact rfl | with_reducible exact trivial | (with_reducible (show (_ : Int) ≤ _); omega) | (with_reducible (show (_ : Int) < _); omega) | (with_reducible (show (_ : Nat) < _); omega) | (with_reducible (show (_ : Nat) ≤ _); omega) | with_reducible exact Or.inl rfl | with_reducible exact Or.inr rfl | with_reducible exact Or.inl trivial | with_reducible exact Or.inr trivial | (intro hz; exact absurd hz (by decide)) | (intro hz; exfalso; omega) | refine And.intro ?_ ?_ | intro _))
      all_goals (rename_i z _; simp (disch := omega) only [mu_f, mj_up_s] at z)
      all_goals refine Qe (h _ (fun a ha => by unfold bk at ha; simp (disch := omega) only [mu_o]) hCn) ?_
      · rw [if_pos z]
      · rw [if_neg z]
    · unfold RBd at hBd
      have e150 : K 150 4 = I 150 4 := by rw [h150]
      rw [hN0] at h151
      refine x_C false [.inr (13, 0, 150, 0), .inl v, .inl f, .inl t] [] 80 hS ⟨xok_m hS, trivial, trivial, trivial, trivial⟩ ?_
      (repeat' (first | rw [h151] | refine m_isPerson hS _ ?_ ?_ ?_ ?_ | refine m_isDay _ ?_ ?_ ?_ | refine m_isAway hS _ _ ?_ ?_ ?_ ?_ | simp (disch := omega) only [rd_up, rd_uo, rd_mu, up_f, mu_f, mj_up_s, ru_s, ru_n] | with_reducible assumption | with_reducible exact rfl | with_reducible exact trivial | (with_reducible (show (_ : Int) ≤ _); omega) | (with_reducible (show (_ : Int) < _); omega) | (with_reducible (show (_ : Nat) < _); omega) | (with_reducible (show (_ : Nat) ≤ _); omega) | with_reducible exact Or.inl rfl | with_reducible exact Or.inr rfl | with_reducible exact Or.inl trivial | with_reducible exact Or.inr trivial | (intro hz; exact absurd hz (by decide)) | (intro hz; exfalso; omega) | refine And.intro ?_ ?_ | intro _))
      all_goals (refine Qe (h _ ?_ ?_ (fun j hj => ?_) ?_) ?_)
      all_goals first
        | exact (((fr.refl.up (Or.inr (Or.inl rfl)) _ _).up (Or.inr (Or.inl rfl)) _ _).mu (Or.inl rfl) _ _)
        | (simp (disch := omega) only [rd_mu, rd_up, h151]; done)
        | (simp (disch := omega) only [mu_f, up_f]; done)
        | (simp (disch := omega) only [mj_up_s, up_f]; done)
        | rw [if_pos (by assumption)]
        | rw [if_neg (by assumption)]
        | rfl
  · refine pair_no hn hR0 (-1000000001) (fun Q h => ?_) (fun Q h => ?_)
    · refine x_C false [.inr (1, 0, 20, 0), .inl v, .inl f, .inl t] [] 60 hS ⟨xok_w hS, trivial, trivial, trivial, trivial⟩ ?_
      (repeat' (first | refine c_hasPerson hS hb _ ?_ ?_ ?_ ?_ | refine c_isDay _ ?_ ?_ ?_ | with_reducible assumption | with_reducible exact rfl | with_reducible exact trivial | (with_reducible (show (_ : Int) ≤ _); omega) | (with_reducible (show (_ : Int) < _); omega) | (with_reducible (show (_ : Nat) < _); omega) | (with_reducible (show (_ : Nat) ≤ _); omega) | with_reducible exact Or.inl rfl | with_reducible exact Or.inr rfl | with_reducible exact Or.inl trivial | with_reducible exact Or.inr trivial | (intro hz; exact absurd hz (by decide)) | (intro hz; exfalso; omega) | refine And.intro ?_ ?_ | intro _))
      all_goals exact h
    · refine x_C false [.inr (13, 0, 150, 0), .inl v, .inl f, .inl t] [] 60 hS ⟨xok_m hS, trivial, trivial, trivial, trivial⟩ ?_
      (repeat' (first | refine m_isPerson hS _ ?_ ?_ ?_ ?_ | refine m_isDay _ ?_ ?_ ?_ | with_reducible assumption | with_reducible exact rfl | with_reducible exact trivial | (with_reducible (show (_ : Int) ≤ _); omega) | (with_reducible (show (_ : Int) < _); omega) | (with_reducible (show (_ : Nat) < _); omega) | (with_reducible (show (_ : Nat) ≤ _); omega) | with_reducible exact Or.inl rfl | with_reducible exact Or.inr rfl | with_reducible exact Or.inl trivial | with_reducible exact Or.inr trivial | (intro hz; exact absurd hz (by decide)) | (intro hz; exfalso; omega) | refine And.intro ?_ ?_ | intro _))
      all_goals exact h
theorem P_stand {L : Nat} {xs : Nat → Int32} {n : Nat} (v u t : Int) : Pair L xs n 29 210 [.inl v, .inl u, .inl t] := by
  intro I S hn hR
  have hR0 := hR
  obtain ⟨hS, hO, ⟨hN, hCb⟩, hI, hTp, hWt, hSh, hSl, hMo, hCa, hBd⟩ := hR
  have hH := hN.1
  have hCH := hCb.1
  have hb : mB 21 := Or.inl rfl
  unfold InvH at hH
  unfold CbH at hCH
  by_cases hv : (0 ≤ v ∧ v < rd I 151 2) ∧ (u ≠ -1 → (0 ≤ u ∧ u < rd I 151 2) ∧ u ≠ v ∧ 0 ≤ t ∧ t ≤ 999)
  · have hPv := hN.2.1 v hv.1.1 hv.1.2
    have hCv := hCb.2.1 v hv.1.1 hv.1.2
    generalize hN0 : rd I 151 = N at *
    have es : ∀ q, q ≠ 2 → ¬ (8 + 8 * v ≤ q ∧ q < 16 + 8 * v) → ru (ru N (8 + 8 * v + 6) u) (8 + 8 * v + 7) t q = N q := fun q h1 h2 => by
      rw [ru_n (by omega), ru_n (by omega)]
    have g2 : ru (ru N (8 + 8 * v + 6) u) (8 + 8 * v + 7) t 2 = N 2 := by rw [ru_n (by omega), ru_n (by omega)]
    obtain ⟨hIn, hCn⟩ := upd_P (K := mj_up (mj_up I (21 + 15 + v.toNat) 6 u) (21 + 15 + v.toNat) 7 t) (N' := ru (ru N (8 + 8 * v + 6) u) (8 + 8 * v + 7) t) hN hCb (p := v) (by omega) es (Or.inl g2) (by omega)
      (by
        unfold InvP at hPv ⊢
        simp (disch := omega) only [ru_s, ru_n]
        omega)
      (fun a h1 h2 => by simp (disch := omega) only [mu_o]) (fun j hj => by simp (disch := omega) only [mu_f]) (by simp (disch := omega) only [mu_f]; omega)
      (by
        unfold CbP at hCv ⊢
        simp (disch := omega) only [ru_s, ru_n, mu_f, mj_up_s]
        exact ⟨hCv.1, hCv.2.1, hCv.2.2.1, hCv.2.2.2.1, hCv.2.2.2.2.1, hCv.2.2.2.2.2.1, trivial, fun _ => trivial⟩)
    have e6 : I (21 + 15 + v.toNat) 6 = N (8 + 8 * v + 6) := hCv.2.2.2.2.2.2.1
    refine pair_mu hn hR0 (if N (8 + 8 * v + 6) < 0 then -1000000005 else N (8 + 8 * v + 6)) _ hIn 1 (by omega) (fun Q h => ?_) (fun K Q h151 h150 _ h => ?_)
    · refine x_C false [.inr (1, 0, 20, 0), .inl v, .inl u, .inl t] [] 60 hS ⟨xok_w hS, trivial, trivial, trivial, trivial⟩ ?_
      (repeat' (first | rw [e6] | refine c_hasPerson hS hb _ ?_ ?_ ?_ ?_ | refine c_isDay _ ?_ ?_ ?_ | with_reducible assumption | with_reducible exact rfl | with_reducible exact trivial | (with_reducible (show (_ : Int) ≤ _); omega) | (with_reducible (show (_ : Int) < _); omega) | (with_reducible (show (_ : Nat) < _); omega) | (with_reducible (show (_ : Nat) ≤ _); omega) | with_reducible exact Or.inl rfl | with_reducible exact Or.inr rfl | with_reducible exact Or.inl trivial | with_reducible exact Or.inr trivial | (intro hz; exact absurd hz (by decide)) | (intro hz; exfalso; omega) | refine And.intro ?_ ?_ | intro _))
      all_goals (refine Qe (h _ (fun a ha => by unfold bk at ha; simp (disch := omega) only [mu_o]) hCn) ?_; omega)
    · unfold RBd at hBd
      have e150 : K 150 4 = I 150 4 := by rw [h150]
      rw [hN0] at h151
      refine x_C false [.inr (13, 0, 150, 0), .inl v, .inl u, .inl t] [] 80 hS ⟨xok_m hS, trivial, trivial, trivial, trivial⟩ ?_
      (repeat' (first | rw [h151] | refine m_isPerson hS _ ?_ ?_ ?_ ?_ | refine m_isDay _ ?_ ?_ ?_ | refine m_of8 hS _ _ ?_ ?_ ?_ | refine m_orNone _ ?_ | simp (disch := omega) only [rd_up, rd_uo, rd_mu, up_f, mu_f, mj_up_s, ru_s, ru_n] | with_reducible assumption | with_reducible exact rfl | with_reducible exact trivial | (with_reducible (show (_ : Int) ≤ _); omega) | (with_reducible (show (_ : Int) < _); omega) | (with_reducible (show (_ : Nat) < _); omega) | (with_reducible (show (_ : Nat) ≤ _); omega) | with_reducible exact Or.inl rfl | with_reducible exact Or.inr rfl | with_reducible exact Or.inl trivial | with_reducible exact Or.inr trivial | (intro hz; exact absurd hz (by decide)) | (intro hz; exfalso; omega) | refine And.intro ?_ ?_ | intro _))
      all_goals (refine Qe (h _ ?_ ?_ (fun j hj => ?_) ?_) ?_)
      all_goals first
        | exact (((fr.refl.up (Or.inr (Or.inl rfl)) _ _).up (Or.inr (Or.inl rfl)) _ _).mu (Or.inl rfl) _ _)
        | (simp (disch := omega) only [rd_mu, rd_up, h151]; done)
        | (simp (disch := omega) only [mu_f, up_f]; done)
        | (simp (disch := omega) only [mj_up_s, up_f]; done)
        | rw [if_pos (by assumption)]
        | rw [if_neg (by assumption)]
        | rfl
  · refine pair_no hn hR0 (-1000000001) (fun Q h => ?_) (fun Q h => ?_)
    · refine x_C false [.inr (1, 0, 20, 0), .inl v, .inl u, .inl t] [] 60 hS ⟨xok_w hS, trivial, trivial, trivial, trivial⟩ ?_
      (repeat' (first | refine c_hasPerson hS hb _ ?_ ?_ ?_ ?_ | refine c_isDay _ ?_ ?_ ?_ | with_reducible assumption | with_reducible exact rfl | with_reducible exact trivial | (with_reducible (show (_ : Int) ≤ _); omega) | (with_reducible (show (_ : Int) < _); omega) | (with_reducible (show (_ : Nat) < _); omega) | (with_reducible (show (_ : Nat) ≤ _); omega) | with_reducible exact Or.inl rfl | with_reducible exact Or.inr rfl | with_reducible exact Or.inl trivial | with_reducible exact Or.inr trivial | (intro hz; exact absurd hz (by decide)) | (intro hz; exfalso; omega) | refine And.intro ?_ ?_ | intro _))
      all_goals exact h
    · refine x_C false [.inr (13, 0, 150, 0), .inl v, .inl u, .inl t] [] 60 hS ⟨xok_m hS, trivial, trivial, trivial, trivial⟩ ?_
      (repeat' (first | refine m_isPerson hS _ ?_ ?_ ?_ ?_ | refine m_isDay _ ?_ ?_ ?_ | with_reducible assumption | with_reducible exact rfl | with_reducible exact trivial | (with_reducible (show (_ : Int) ≤ _); omega) | (with_reducible (show (_ : Int) < _); omega) | (with_reducible (show (_ : Nat) < _); omega) | (with_reducible (show (_ : Nat) ≤ _); omega) | with_reducible exact Or.inl rfl | with_reducible exact Or.inr rfl | with_reducible exact Or.inl trivial | with_reducible exact Or.inr trivial | (intro hz; exact absurd hz (by decide)) | (intro hz; exfalso; omega) | refine And.intro ?_ ?_ | intro _))
      all_goals exact h
