/-! calls that change the book: step, rule -/
def w_begS (I : mj_I) (a : Nat) (o r k : Int) : mj_I := mj_up (mj_up (mj_up (mj_up I a 0 o) a 1 r) a 2 k) a 3 (-1)
theorem c_beginS {d : Nat} {I : mj_I} {S : mj_S} {Q : mj_Q} (p : Nat) (o r k : Int) (hp : mj_tg S p = 4) (h : Q none (w_begS I p o r k) S) : mj_C d 31 [.inr p, .inl o, .inl r, .inl k] I S Q := by
  refine mj_C_of 40 ?_
  (repeat' (first | assumption | exact Or.inl rfl | exact Or.inr rfl | (intro hz; exact absurd hz (by decide)) | refine And.intro ?_ ?_ | intro _))
def w_begR (I : mj_I) (a : Nat) (o r k m : Int) : mj_I := mj_up (mj_up (mj_up (mj_up I a 0 o) a 1 r) a 2 k) a 3 m
theorem c_beginR {d : Nat} {I : mj_I} {S : mj_S} {Q : mj_Q} (p : Nat) (o r k m : Int) (hp : mj_tg S p = 5) (h : Q none (w_begR I p o r k m) S) : mj_C d 47 [.inr p, .inl o, .inl r, .inl k, .inl m] I S Q := by
  refine mj_C_of 40 ?_
  (repeat' (first | assumption | exact Or.inl rfl | exact Or.inr rfl | (intro hz; exact absurd hz (by decide)) | refine And.intro ?_ ?_ | intro _))
theorem tg_St {S : mj_S} (hS : mk_Sh S) {b : Nat} (hb : mB b) {p : Int} (h0 : 0 ≤ p) (h1 : p < 6) : mj_tg S (b + 22 + p.toNat) = 4 := by
  rcases xok_St hS hb h0 h1 with h | h
  · exact absurd (show (5 : Nat) = 0 from h) (by decide)
  · have : mj_tg S (b + 22 + p.toNat) + 1 = 5 := h.1
    omega
theorem P_step {L : Nat} {xs : Nat → Int32} {n : Nat} (o r k : Int) : Pair L xs n 30 211 [.inl o, .inl r, .inl k] := by
  intro I S hn hR
  have hR0 := hR
  obtain ⟨hS, hO, ⟨hN, hCb⟩, hI, hTp, hWt, hSh, hSl, hMo, hCa, hBd⟩ := hR
  have hH := hN.1
  have hCH := hCb.1
  have hb : mB 21 := Or.inl rfl
  unfold InvH at hH
  unfold CbH at hCH
  by_cases hv : (-1 ≤ o ∧ o ≤ 7) ∧ (0 ≤ r ∧ r ≤ 9) ∧ (1 ≤ k ∧ k ≤ 60)
  · by_cases hf : rd I 151 3 = 6
    · refine pair_no hn hR0 (-1000000003) (fun Q h => ?_) (fun Q h => ?_)
      · refine x_C false [.inr (1, 0, 20, 0), .inl o, .inl r, .inl k] [] 60 hS ⟨xok_w hS, trivial, trivial, trivial, trivial⟩ ?_
        (repeat' (first | refine c_within _ _ _ ?_ ?_ | with_reducible assumption | with_reducible exact rfl | with_reducible exact trivial | (with_reducible (show (_ : Int) ≤ _); omega) | (with_reducible (show (_ : Int) < _); omega) | (with_reducible (show (_ : Nat) < _); omega) | (with_reducible (show (_ : Nat) ≤ _); omega) | with_reducible exact Or.inl rfl | with_reducible exact Or.inr rfl | with_reducible exact Or.inl trivial | with_reducible exact Or.inr trivial | (intro hz; exact absurd hz (by decide)) | (intro hz; exfalso; omega) | refine And.intro ?_ ?_ | intro _))
        all_goals exact h
      · refine x_C false [.inr (13, 0, 150, 0), .inl o, .inl r, .inl k] [] 60 hS ⟨xok_m hS, trivial, trivial, trivial, trivial⟩ ?_
        (repeat' (first | refine c_in _ _ _ ?_ ?_ | with_reducible assumption | with_reducible exact rfl | with_reducible exact trivial | (with_reducible (show (_ : Int) ≤ _); omega) | (with_reducible (show (_ : Int) < _); omega) | (with_reducible (show (_ : Nat) < _); omega) | (with_reducible (show (_ : Nat) ≤ _); omega) | with_reducible exact Or.inl rfl | with_reducible exact Or.inr rfl | with_reducible exact Or.inl trivial | with_reducible exact Or.inr trivial | (intro hz; exact absurd hz (by decide)) | (intro hz; exfalso; omega) | refine And.intro ?_ ?_ | intro _))
        all_goals exact h
    · generalize hN0 : rd I 151 = N at *
      generalize hp : N 3 = p at *
      have ew : w_begS I (21 + 22 + p.toNat) o r k 21 3 = p := by
        unfold w_begS
        simp (disch := omega) only [mu_o]
        omega
      have eK : ∀ a, ¬ a = 21 → ¬ a = 21 + 22 + p.toNat → mj_up (w_begS I (21 + 22 + p.toNat) o r k) 21 3 (p + 1) a = I a := by
        intro a h1 h2
        unfold w_begS
        simp (disch := omega) only [mu_o]
      obtain ⟨hIn, hCn⟩ := upd_S (K := mj_up (w_begS I (21 + 22 + p.toNat) o r k) 21 3 (p + 1)) (N' := ru (ru (ru (ru (ru N (64 + 4 * p) o) (64 + 4 * p + 1) r) (64 + 4 * p + 2) k) (64 + 4 * p + 3) (-1)) 3 (p + 1)) hN hCb (p := p) (by omega) (fun q h1 h2 => by simp (disch := omega) only [ru_n]) (Or.inr ⟨by rw [ru_s]; omega, hp⟩) (by rw [ru_s]; omega)
        (by
          unfold InvS
          rw [show 64 + 4 * p + 0 = 64 + 4 * p by omega]
          simp (disch := omega) only [ru_s, ru_n]
          omega)
        eK (fun j hj => by unfold w_begS; simp (disch := omega) only [mu_f, mu_o]) (by rw [mj_up_s, ru_s])
        (by
          unfold CbS
          rw [show 64 + 4 * p + 0 = 64 + 4 * p by omega]
          simp (disch := omega) only [ru_s, ru_n]
          unfold w_begS
          simp (disch := omega) only [mu_o, mj_up_s, mj_up_n]
          exact ⟨trivial, trivial, trivial, trivial⟩)
      refine pair_mu hn hR0 p _ hIn 1 (by omega) (fun Q h => ?_) (fun K Q h151 h150 _ h => ?_)
      · have ep : I 21 3 = p := by omega
        refine x_C false [.inr (1, 0, 20, 0), .inl o, .inl r, .inl k] [] 60 hS ⟨xok_w hS, trivial, trivial, trivial, trivial⟩ ?_
        (repeat' (first | rw [ep] | rw [ew] | rw [mj_up_s] | refine c_within _ _ _ ?_ ?_ | refine c_beginS _ _ _ _ ?_ ?_ | exact tg_St hS hb (by omega) (by omega) | with_reducible assumption | with_reducible exact rfl | with_reducible exact trivial | (with_reducible (show (_ : Int) ≤ _); omega) | (with_reducible (show (_ : Int) < _); omega) | (with_reducible (show (_ : Nat) < _); omega) | (with_reducible (show (_ : Nat) ≤ _); omega) | with_reducible exact Or.inl rfl | with_reducible exact Or.inr rfl | with_reducible exact Or.inl trivial | with_reducible exact Or.inr trivial | (intro hz; exact absurd hz (by decide)) | (intro hz; exfalso; omega) | refine And.intro ?_ ?_ | intro _))
        exact Qe (h _ (fun a ha => eK a (by unfold bk at ha; omega) (by unfold bk at ha; omega)) hCn) (by omega)
      · unfold RBd at hBd
        have e150 : K 150 4 = I 150 4 := by rw [h150]
        rw [hN0] at h151
        refine x_C false [.inr (13, 0, 150, 0), .inl o, .inl r, .inl k] [] 120 hS ⟨xok_m hS, trivial, trivial, trivial, trivial⟩ ?_
        (repeat' (first | rw [h151] | rw [hp] | refine c_in _ _ _ ?_ ?_ | simp (disch := omega) only [rd_up, rd_uo, rd_mu, up_f, mu_f, mj_up_s, ru_s, ru_n] | with_reducible assumption | with_reducible exact rfl | with_reducible exact trivial | (with_reducible (show (_ : Int) ≤ _); omega) | (with_reducible (show (_ : Int) < _); omega) | (with_reducible (show (_ : Nat) < _); omega) | (with_reducible (show (_ : Nat) ≤ _); omega) | with_reducible exact Or.inl rfl | with_reducible exact Or.inr rfl | with_reducible exact Or.inl trivial | with_reducible exact Or.inr trivial | (intro hz; exact absurd hz (by decide)) | (intro hz; exfalso; omega) | refine And.intro ?_ ?_ | intro _))
        (refine Qe (h _ ?_ ?_ (fun j hj => ?_) ?_) ?_) <;> first | exact ((((((fr.refl.up (Or.inr (Or.inl rfl)) _ _).up (Or.inr (Or.inl rfl)) _ _).up (Or.inr (Or.inl rfl)) _ _).up (Or.inr (Or.inl rfl)) _ _).up (Or.inr (Or.inl rfl)) _ _).mu (Or.inl rfl) _ _) | (simp (disch := omega) only [rd_mu, rd_up, h151]; done) | (simp (disch := omega) only [mu_f, up_f]; done) | (simp (disch := omega) only [mj_up_s, up_f]; done) | rw [if_pos (by assumption)] | rw [if_neg (by assumption)] | rfl | omega
  · refine pair_no hn hR0 (-1000000001) (fun Q h => ?_) (fun Q h => ?_)
    · refine x_C false [.inr (1, 0, 20, 0), .inl o, .inl r, .inl k] [] 60 hS ⟨xok_w hS, trivial, trivial, trivial, trivial⟩ ?_
      (repeat' (first | refine c_within _ _ _ ?_ ?_ | with_reducible assumption | with_reducible exact rfl | with_reducible exact trivial | (with_reducible (show (_ : Int) ≤ _); omega) | (with_reducible (show (_ : Int) < _); omega) | (with_reducible (show (_ : Nat) < _); omega) | (with_reducible (show (_ : Nat) ≤ _); omega) | with_reducible exact Or.inl rfl | with_reducible exact Or.inr rfl | with_reducible exact Or.inl trivial | with_reducible exact Or.inr trivial | (intro hz; exact absurd hz (by decide)) | (intro hz; exfalso; omega) | refine And.intro ?_ ?_ | intro _))
      all_goals exact h
    · refine x_C false [.inr (13, 0, 150, 0), .inl o, .inl r, .inl k] [] 60 hS ⟨xok_m hS, trivial, trivial, trivial, trivial⟩ ?_
      (repeat' (first | refine c_in _ _ _ ?_ ?_ | with_reducible assumption | with_reducible exact rfl | with_reducible exact trivial | (with_reducible (show (_ : Int) ≤ _); omega) | (with_reducible (show (_ : Int) < _); omega) | (with_reducible (show (_ : Nat) < _); omega) | (with_reducible (show (_ : Nat) ≤ _); omega) | with_reducible exact Or.inl rfl | with_reducible exact Or.inr rfl | with_reducible exact Or.inl trivial | with_reducible exact Or.inr trivial | (intro hz; exact absurd hz (by decide)) | (intro hz; exfalso; omega) | refine And.intro ?_ ?_ | intro _))
      all_goals exact h
theorem P_rule {L : Nat} {xs : Nat → Int32} {n : Nat} (o r k : Int) (hR31 : r ≤ 2147483647) : Pair L xs n 45 221 [.inl o, .inl r, .inl k] := by
  intro I S hn hR
  have hR0 := hR
  obtain ⟨hS, hO, ⟨hN, hCb⟩, hI, hTp, hWt, hSh, hSl, hMo, hCa, hBd⟩ := hR
  have hH := hN.1
  have hCH := hCb.1
  have hb : mB 21 := Or.inl rfl
  unfold InvH at hH
  unfold CbH at hCH
  by_cases h0 : 0 ≤ r
  · have d1 : r.tdiv 10 = r / 10 := Int.tdiv_eq_ediv_of_nonneg h0
    have d2 : r.tmod 10 = r % 10 := Int.tmod_eq_emod_of_nonneg h0
    · by_cases hv : (0 ≤ o ∧ o ≤ 5) ∧ (r / 10 < rd I 151 3) ∧ (r % 10 < rd I 151 3) ∧ r / 10 ≠ r % 10 ∧ (0 ≤ k ∧ k ≤ 9)
      · by_cases hf : rd I 151 4 = 12
        · refine pair_no hn hR0 (-1000000003) (fun Q h => ?_) (fun Q h => ?_)
          · refine x_C false [.inr (1, 0, 20, 0), .inl o, .inl r, .inl k] [] 60 hS ⟨xok_w hS, trivial, trivial, trivial, trivial⟩ ?_
            (repeat' (first | rw [d1] | rw [d2] | refine c_isKind _ ?_ ?_ ?_ | refine c_within _ _ _ ?_ ?_ | refine c_hasStep hS hb _ ?_ ?_ ?_ ?_ | with_reducible assumption | with_reducible exact rfl | with_reducible exact trivial | (with_reducible (show (_ : Int) ≤ _); omega) | (with_reducible (show (_ : Int) < _); omega) | (with_reducible (show (_ : Nat) < _); omega) | (with_reducible (show (_ : Nat) ≤ _); omega) | with_reducible exact Or.inl rfl | with_reducible exact Or.inr rfl | with_reducible exact Or.inl trivial | with_reducible exact Or.inr trivial | (intro hz; exact absurd hz (by decide)) | (intro hz; exfalso; omega) | refine And.intro ?_ ?_ | intro _))
            all_goals exact h
          · refine x_C false [.inr (13, 0, 150, 0), .inl o, .inl r, .inl k] [] 80 hS ⟨xok_m hS, trivial, trivial, trivial, trivial⟩ ?_
            (repeat' (first | rw [d1] | rw [d2] | refine c_in _ _ _ ?_ ?_ | refine m_isStep hS _ ?_ ?_ ?_ ?_ | with_reducible assumption | with_reducible exact rfl | with_reducible exact trivial | (with_reducible (show (_ : Int) ≤ _); omega) | (with_reducible (show (_ : Int) < _); omega) | (with_reducible (show (_ : Nat) < _); omega) | (with_reducible (show (_ : Nat) ≤ _); omega) | with_reducible exact Or.inl rfl | with_reducible exact Or.inr rfl | with_reducible exact Or.inl trivial | with_reducible exact Or.inr trivial | (intro hz; exact absurd hz (by decide)) | (intro hz; exfalso; omega) | refine And.intro ?_ ?_ | intro _))
            all_goals exact h
        · generalize hN0 : rd I 151 = N at *
          generalize hp : N 4 = p at *
          have ew : w_begR I (21 + 28 + p.toNat) o (r / 10) (r % 10) k 21 5 = p := by
            unfold w_begR
            simp (disch := omega) only [mu_o]
            omega
          have eK : ∀ a, ¬ a = 21 → ¬ a = 21 + 28 + p.toNat → mj_up (w_begR I (21 + 28 + p.toNat) o (r / 10) (r % 10) k) 21 5 (p + 1) a = I a := by
            intro a h1 h2
            unfold w_begR
            simp (disch := omega) only [mu_o]
          obtain ⟨hIn, hCn⟩ := upd_R (K := mj_up (w_begR I (21 + 28 + p.toNat) o (r / 10) (r % 10) k) 21 5 (p + 1)) (N' := ru (ru (ru (ru (ru N (88 + 4 * p) o) (88 + 4 * p + 1) (r / 10)) (88 + 4 * p + 2) (r % 10)) (88 + 4 * p + 3) k) 4 (p + 1)) hN hCb (p := p) (by omega) (fun q h1 h2 => by simp (disch := omega) only [ru_n]) (Or.inr ⟨by rw [ru_s]; omega, hp⟩) (by rw [ru_s]; omega)
            (by
              unfold InvR
              rw [show 88 + 4 * p + 0 = 88 + 4 * p by omega]
              simp (disch := omega) only [ru_s, ru_n]
              omega)
            eK (fun j hj => by unfold w_begR; simp (disch := omega) only [mu_f, mu_o]) (by rw [mj_up_s, ru_s])
            (by
              unfold CbR
              rw [show 88 + 4 * p + 0 = 88 + 4 * p by omega]
              simp (disch := omega) only [ru_s, ru_n]
              unfold w_begR
              simp (disch := omega) only [mu_o, mj_up_s, mj_up_n]
              exact ⟨trivial, trivial, trivial, trivial⟩)
          refine pair_mu hn hR0 p _ hIn 1 (by omega) (fun Q h => ?_) (fun K Q h151 h150 _ h => ?_)
          · have ep : I 21 5 = p := by omega
            refine x_C false [.inr (1, 0, 20, 0), .inl o, .inl r, .inl k] [] 80 hS ⟨xok_w hS, trivial, trivial, trivial, trivial⟩ ?_
            (repeat' (first | rw [d1] | rw [d2] | rw [ep] | rw [ew] | rw [mj_up_s] | refine c_isKind _ ?_ ?_ ?_ | refine c_within _ _ _ ?_ ?_ | refine c_hasStep hS hb _ ?_ ?_ ?_ ?_ | refine c_beginR _ _ _ _ _ ?_ ?_ | exact tg_Ru hS hb (by omega) (by omega) | with_reducible assumption | with_reducible exact rfl | with_reducible exact trivial | (with_reducible (show (_ : Int) ≤ _); omega) | (with_reducible (show (_ : Int) < _); omega) | (with_reducible (show (_ : Nat) < _); omega) | (with_reducible (show (_ : Nat) ≤ _); omega) | with_reducible exact Or.inl rfl | with_reducible exact Or.inr rfl | with_reducible exact Or.inl trivial | with_reducible exact Or.inr trivial | (intro hz; exact absurd hz (by decide)) | (intro hz; exfalso; omega) | refine And.intro ?_ ?_ | intro _))
            exact Qe (h _ (fun a ha => eK a (by unfold bk at ha; omega) (by unfold bk at ha; omega)) hCn) (by omega)
          · unfold RBd at hBd
            have e150 : K 150 4 = I 150 4 := by rw [h150]
            rw [hN0] at h151
            refine x_C false [.inr (13, 0, 150, 0), .inl o, .inl r, .inl k] [] 140 hS ⟨xok_m hS, trivial, trivial, trivial, trivial⟩ ?_
            (repeat' (first | rw [d1] | rw [d2] | rw [h151] | rw [hp] | refine c_in _ _ _ ?_ ?_ | refine m_isStep hS _ ?_ ?_ ?_ ?_ | simp (disch := omega) only [rd_up, rd_uo, rd_mu, up_f, mu_f, mj_up_s, ru_s, ru_n] | with_reducible assumption | with_reducible exact rfl | with_reducible exact trivial | (with_reducible (show (_ : Int) ≤ _); omega) | (with_reducible (show (_ : Int) < _); omega) | (with_reducible (show (_ : Nat) < _); omega) | (with_reducible (show (_ : Nat) ≤ _); omega) | with_reducible exact Or.inl rfl | with_reducible exact Or.inr rfl | with_reducible exact Or.inl trivial | with_reducible exact Or.inr trivial | (intro hz; exact absurd hz (by decide)) | (intro hz; exfalso; omega) | refine And.intro ?_ ?_ | intro _))
            (refine Qe (h _ ?_ ?_ (fun j hj => ?_) ?_) ?_) <;> first | exact ((((((fr.refl.up (Or.inr (Or.inl rfl)) _ _).up (Or.inr (Or.inl rfl)) _ _).up (Or.inr (Or.inl rfl)) _ _).up (Or.inr (Or.inl rfl)) _ _).up (Or.inr (Or.inl rfl)) _ _).mu (Or.inl rfl) _ _) | (simp (disch := omega) only [rd_mu, rd_up, h151]; done) | (simp (disch := omega) only [mu_f, up_f]; done) | (simp (disch := omega) only [mj_up_s, up_f]; done) | rw [if_pos (by assumption)] | rw [if_neg (by assumption)] | rfl | omega
      · refine pair_no hn hR0 (-1000000001) (fun Q h => ?_) (fun Q h => ?_)
        · refine x_C false [.inr (1, 0, 20, 0), .inl o, .inl r, .inl k] [] 60 hS ⟨xok_w hS, trivial, trivial, trivial, trivial⟩ ?_
          (repeat' (first | rw [d1] | rw [d2] | refine c_isKind _ ?_ ?_ ?_ | refine c_within _ _ _ ?_ ?_ | refine c_hasStep hS hb _ ?_ ?_ ?_ ?_ | with_reducible assumption | with_reducible exact rfl | with_reducible exact trivial | (with_reducible (show (_ : Int) ≤ _); omega) | (with_reducible (show (_ : Int) < _); omega) | (with_reducible (show (_ : Nat) < _); omega) | (with_reducible (show (_ : Nat) ≤ _); omega) | with_reducible exact Or.inl rfl | with_reducible exact Or.inr rfl | with_reducible exact Or.inl trivial | with_reducible exact Or.inr trivial | (intro hz; exact absurd hz (by decide)) | (intro hz; exfalso; omega) | refine And.intro ?_ ?_ | intro _))
          all_goals exact h
        · refine x_C false [.inr (13, 0, 150, 0), .inl o, .inl r, .inl k] [] 80 hS ⟨xok_m hS, trivial, trivial, trivial, trivial⟩ ?_
          (repeat' (first | rw [d1] | rw [d2] | refine c_in _ _ _ ?_ ?_ | refine m_isStep hS _ ?_ ?_ ?_ ?_ | with_reducible assumption | with_reducible exact rfl | with_reducible exact trivial | (with_reducible (show (_ : Int) ≤ _); omega) | (with_reducible (show (_ : Int) < _); omega) | (with_reducible (show (_ : Nat) < _); omega) | (with_reducible (show (_ : Nat) ≤ _); omega) | with_reducible exact Or.inl rfl | with_reducible exact Or.inr rfl | with_reducible exact Or.inl trivial | with_reducible exact Or.inr trivial | (intro hz; exact absurd hz (by decide)) | (intro hz; exfalso; omega) | refine And.intro ?_ ?_ | intro _))
          all_goals exact h
  · refine pair_no hn hR0 (-1000000001) (fun Q h => ?_) (fun Q h => ?_)
    · refine x_C false [.inr (1, 0, 20, 0), .inl o, .inl r, .inl k] [] 60 hS ⟨xok_w hS, trivial, trivial, trivial, trivial⟩ ?_
      (repeat' (first | refine c_isKind _ ?_ ?_ ?_ | refine c_within _ _ _ ?_ ?_ | with_reducible assumption | with_reducible exact rfl | with_reducible exact trivial | (with_reducible (show (_ : Int) ≤ _); omega) | (with_reducible (show (_ : Int) < _); omega) | (with_reducible (show (_ : Nat) < _); omega) | (with_reducible (show (_ : Nat) ≤ _); omega) | with_reducible exact Or.inl rfl | with_reducible exact Or.inr rfl | with_reducible exact Or.inl trivial | with_reducible exact Or.inr trivial | (intro hz; exact absurd hz (by decide)) | (intro hz; exfalso; omega) | refine And.intro ?_ ?_ | intro _))
      all_goals exact h
    · refine x_C false [.inr (13, 0, 150, 0), .inl o, .inl r, .inl k] [] 80 hS ⟨xok_m hS, trivial, trivial, trivial, trivial⟩ ?_
      (repeat' (first | refine c_in _ _ _ ?_ ?_ | with_reducible assumption | with_reducible exact rfl | with_reducible exact trivial | (with_reducible (show (_ : Int) ≤ _); omega) | (with_reducible (show (_ : Int) < _); omega) | (with_reducible (show (_ : Nat) < _); omega) | (with_reducible (show (_ : Nat) ≤ _); omega) | with_reducible exact Or.inl rfl | with_reducible exact Or.inr rfl | with_reducible exact Or.inl trivial | with_reducible exact Or.inr trivial | (intro hz; exact absurd hz (by decide)) | (intro hz; exfalso; omega) | refine And.intro ?_ ?_ | intro _))
      all_goals exact h
