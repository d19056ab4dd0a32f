/-! calls that change the book: person, away -/
theorem P_person {L : Nat} {xs : Nat → Int32} {n : Nat} (o r k : Int) : Pair L xs n 12 195 [.inl o, .inl r, .inl k] := by
  intro I S hn hR
  have hR0 := hR
  obtain ⟨hS, hO, ⟨hN, hCb⟩, hI, hTp, hWt, hSh, hSl, hMo, hCa, hBd⟩ := hR
  have hH := hN.1
  have hCH := hCb.1
  have hb : mB 21 := Or.inl rfl
  unfold InvH at hH
  unfold CbH at hCH
  by_cases hv : (0 ≤ o ∧ o ≤ 4) ∧ (0 ≤ r ∧ r ≤ 9) ∧ (0 ≤ k ∧ k ≤ 9)
  · by_cases hf : rd I 151 2 = 7
    · refine pair_no hn hR0 (-1000000003) (fun Q h => ?_) (fun Q h => ?_)
      · refine x_C false [.inr (1, 0, 20, 0), .inl o, .inl r, .inl k] [] 60 hS ⟨xok_w hS, trivial, trivial, trivial, trivial⟩ ?_
        (repeat' (first | refine c_within _ _ _ ?_ ?_ | with_reducible assumption | with_reducible exact rfl | with_reducible exact trivial | (with_reducible (show (_ : Int) ≤ _); omega) | (with_reducible (show (_ : Int) < _); omega) | (with_reducible (show (_ : Nat) < _); omega) | (with_reducible (show (_ : Nat) ≤ _); omega) | with_reducible exact Or.inl rfl | with_reducible exact Or.inr rfl | with_reducible exact Or.inl trivial | with_reducible exact Or.inr trivial | (intro hz; exact absurd hz (by decide)) | (intro hz; exfalso; omega) | refine And.intro ?_ ?_ | intro _))
        all_goals exact h
      · refine x_C false [.inr (13, 0, 150, 0), .inl o, .inl r, .inl k] [] 60 hS ⟨xok_m hS, trivial, trivial, trivial, trivial⟩ ?_
        (repeat' (first | refine c_in _ _ _ ?_ ?_ | with_reducible assumption | with_reducible exact rfl | with_reducible exact trivial | (with_reducible (show (_ : Int) ≤ _); omega) | (with_reducible (show (_ : Int) < _); omega) | (with_reducible (show (_ : Nat) < _); omega) | (with_reducible (show (_ : Nat) ≤ _); omega) | with_reducible exact Or.inl rfl | with_reducible exact Or.inr rfl | with_reducible exact Or.inl trivial | with_reducible exact Or.inr trivial | (intro hz; exact absurd hz (by decide)) | (intro hz; exfalso; omega) | refine And.intro ?_ ?_ | intro _))
        all_goals exact h
    · generalize hN0 : rd I 151 = N at *
      generalize hp : N 2 = p at *
      have eN : ∀ q, ru (ru (ru (ru (ru (ru (ru (ru (ru N (8 + 8 * p) o) (8 + 8 * p + 1) r) (8 + 8 * p + 2) k) (8 + 8 * p + 3) 0) (8 + 8 * p + 4) 0) (8 + 8 * p + 5) (-1)) (8 + 8 * p + 6) (-1)) (8 + 8 * p + 7) (-1)) 2 (p + 1) q = if q = 2 then p + 1 else if q = 8 + 8 * p then o else if q = 8 + 8 * p + 1 then r else if q = 8 + 8 * p + 2 then k else if q = 8 + 8 * p + 3 then 0 else if q = 8 + 8 * p + 4 then 0 else if q = 8 + 8 * p + 5 then -1 else if q = 8 + 8 * p + 6 then -1 else if q = 8 + 8 * p + 7 then -1 else N q := by
        intro q
        unfold ru
        repeat' split
        all_goals omega
      generalize hN' : ru (ru (ru (ru (ru (ru (ru (ru (ru N (8 + 8 * p) o) (8 + 8 * p + 1) r) (8 + 8 * p + 2) k) (8 + 8 * p + 3) 0) (8 + 8 * p + 4) 0) (8 + 8 * p + 5) (-1)) (8 + 8 * p + 6) (-1)) (8 + 8 * p + 7) (-1)) 2 (p + 1) = N' at eN
      have es : ∀ q, q ≠ 2 → ¬ (8 + 8 * p ≤ q ∧ q < 16 + 8 * p) → N' q = N q := fun q h1 h2 => by
        rw [eN]
        rw [if_neg (by omega), if_neg (by omega), if_neg (by omega), if_neg (by omega), if_neg (by omega), if_neg (by omega), if_neg (by omega), if_neg (by omega), if_neg (by omega)]
      have f0 : N' (8 + 8 * p + 0) = o := by rw [eN]; omega
      have f1 : N' (8 + 8 * p + 1) = r := by rw [eN]; omega
      have f2 : N' (8 + 8 * p + 2) = k := by rw [eN]; omega
      have f3 : N' (8 + 8 * p + 3) = 0 := by rw [eN]; omega
      have f4 : N' (8 + 8 * p + 4) = 0 := by rw [eN]; omega
      have f5 : N' (8 + 8 * p + 5) = -1 := by rw [eN]; omega
      have f6 : N' (8 + 8 * p + 6) = -1 := by rw [eN]; omega
      have g2 : N' 2 = p + 1 := by rw [eN]; omega
      have ew : w_begP I (21 + 15 + p.toNat) o r k 21 1 = p := by
        unfold w_begP
        simp (disch := omega) only [mu_o]
        omega
      have eK : ∀ a, ¬ a = 21 → ¬ a = 21 + 15 + p.toNat → mj_up (w_begP I (21 + 15 + p.toNat) o r k) 21 1 (p + 1) a = I a := by
        intro a h1 h2
        unfold w_begP
        simp (disch := omega) only [mu_o]
      obtain ⟨hIn, hCn⟩ := upd_P (K := mj_up (w_begP I (21 + 15 + p.toNat) o r k) 21 1 (p + 1)) hN hCb (p := p) (by omega) es (by omega) (by omega) (by unfold InvP; omega) eK (fun j hj => by unfold w_begP; simp (disch := omega) only [mu_f, mu_o]) (by rw [mj_up_s]; omega) (by
        unfold CbP
        rw [f0, f1, f2, f3, f4, f5, f6]
        unfold w_begP
        simp (disch := omega) only [mu_o, mj_up_s, mj_up_n]
        exact ⟨trivial, trivial, trivial, trivial, trivial, trivial, trivial, fun z => absurd z (by decide)⟩)
      refine pair_mu hn hR0 p N' hIn 1 (by omega) (fun Q h => ?_) (fun K Q h151 h150 _ h => ?_)
      · refine x_C false [.inr (1, 0, 20, 0), .inl o, .inl r, .inl k] [] 60 hS ⟨xok_w hS, trivial, trivial, trivial, trivial⟩ ?_
        have ep : I 21 1 = p := by omega
        (repeat' (first | rw [ep] | rw [ew] | rw [mj_up_s] | refine c_within _ _ _ ?_ ?_ | refine c_beginP _ _ _ _ ?_ ?_ | exact tg_P hS hb (by omega) (by omega) | with_reducible assumption | with_reducible exact rfl | with_reducible exact trivial | (with_reducible (show (_ : Int) ≤ _); omega) | (with_reducible (show (_ : Int) < _); omega) | (with_reducible (show (_ : Nat) < _); omega) | (with_reducible (show (_ : Nat) ≤ _); omega) | with_reducible exact Or.inl rfl | with_reducible exact Or.inr rfl | with_reducible exact Or.inl trivial | with_reducible exact Or.inr trivial | (intro hz; exact absurd hz (by decide)) | (intro hz; exfalso; omega) | refine And.intro ?_ ?_ | intro _))
        exact Qe (h _ (fun a ha => eK a (by unfold bk at ha; omega) (by unfold bk at ha; omega)) hCn) (by omega)
      · unfold RBd at hBd
        have e150 : K 150 4 = I 150 4 := by rw [h150]
        have h1512 : rd K 151 2 = p := by rw [h151, hN0]; exact hp
        refine x_C false [.inr (13, 0, 150, 0), .inl o, .inl r, .inl k] [] 120 hS ⟨xok_m hS, trivial, trivial, trivial, trivial⟩ ?_
        (repeat' (first | rw [h1512] | refine c_in _ _ _ ?_ ?_ | simp (disch := omega) only [rd_up, rd_uo, rd_mu, up_f, mu_f, mj_up_s, ru_s, ru_n] | with_reducible assumption | with_reducible exact rfl | with_reducible exact trivial | (with_reducible (show (_ : Int) ≤ _); omega) | (with_reducible (show (_ : Int) < _); omega) | (with_reducible (show (_ : Nat) < _); omega) | (with_reducible (show (_ : Nat) ≤ _); omega) | with_reducible exact Or.inl rfl | with_reducible exact Or.inr rfl | with_reducible exact Or.inl trivial | with_reducible exact Or.inr trivial | (intro hz; exact absurd hz (by decide)) | (intro hz; exfalso; omega) | refine And.intro ?_ ?_ | intro _))
        have m1 : mk5 151 := Or.inr (Or.inl rfl)
        refine Qe (h _ (((((((((((fr.refl.up m1 _ _).up m1 _ _).up m1 _ _).up m1 _ _).up m1 _ _).up m1 _ _).up m1 _ _).up m1 _ _).up m1 _ _).mu (Or.inl rfl) _ _)) ?_ (fun j hj => ?_) ?_) (by omega)
        · simp (disch := omega) only [rd_mu, rd_up]
          rw [h151, hN0]
          exact hN'
        · simp (disch := omega) only [mu_f, up_f]
        · rw [mj_up_s]
  · refine pair_no hn hR0 (-1000000001) (fun Q h => ?_) (fun Q h => ?_)
    · refine x_C false [.inr (1, 0, 20, 0), .inl o, .inl r, .inl k] [] 60 hS ⟨xok_w hS, trivial, trivial, trivial, trivial⟩ ?_
      (repeat' (first | refine c_within _ _ _ ?_ ?_ | with_reducible assumption | with_reducible exact rfl | with_reducible exact trivial | (with_reducible (show (_ : Int) ≤ _); omega) | (with_reducible (show (_ : Int) < _); omega) | (with_reducible (show (_ : Nat) < _); omega) | (with_reducible (show (_ : Nat) ≤ _); omega) | with_reducible exact Or.inl rfl | with_reducible exact Or.inr rfl | with_reducible exact Or.inl trivial | with_reducible exact Or.inr trivial | (intro hz; exact absurd hz (by decide)) | (intro hz; exfalso; omega) | refine And.intro ?_ ?_ | intro _))
      all_goals exact h
    · refine x_C false [.inr (13, 0, 150, 0), .inl o, .inl r, .inl k] [] 60 hS ⟨xok_m hS, trivial, trivial, trivial, trivial⟩ ?_
      (repeat' (first | refine c_in _ _ _ ?_ ?_ | with_reducible assumption | with_reducible exact rfl | with_reducible exact trivial | (with_reducible (show (_ : Int) ≤ _); omega) | (with_reducible (show (_ : Int) < _); omega) | (with_reducible (show (_ : Nat) < _); omega) | (with_reducible (show (_ : Nat) ≤ _); omega) | with_reducible exact Or.inl rfl | with_reducible exact Or.inr rfl | with_reducible exact Or.inl trivial | with_reducible exact Or.inr trivial | (intro hz; exact absurd hz (by decide)) | (intro hz; exfalso; omega) | refine And.intro ?_ ?_ | intro _))
      all_goals exact h
