/-! calls that change the book: paper, turns -/
def pset (P w h : Int) : Int := if h = 0 then mj_and P (mj_xor (mj_shl 1 w) (-1)) else mj_or P (mj_shl 1 w)
theorem pset_b {P w h : Int} (hP : 0 ≤ P ∧ P ≤ 255) (hw : 0 ≤ w ∧ w ≤ 7) : 0 ≤ pset P w h ∧ pset P w h ≤ 255 := by
  obtain ⟨a, rfl⟩ := Int.eq_ofNat_of_zero_le hP.1
  obtain ⟨b, rfl⟩ := Int.eq_ofNat_of_zero_le hw.1
  have k : ∀ b, b < 8 → ∀ a, a < 256 → (0 ≤ mj_and (a : Nat) (mj_xor (mj_shl 1 (b : Nat)) (-1)) ∧ mj_and (a : Nat) (mj_xor (mj_shl 1 (b : Nat)) (-1)) ≤ 255) ∧ (0 ≤ mj_or (a : Nat) (mj_shl 1 (b : Nat)) ∧ mj_or (a : Nat) (mj_shl 1 (b : Nat)) ≤ 255) := by decide +kernel
  have q := k b (by omega) a (by omega)
  unfold pset
  split
  · exact q.1
  · exact q.2
/-- 26 setPaper -/
theorem c_setPaper {d : Nat} {I : mj_I} {S : mj_S} {Q : mj_Q} (hS : mk_Sh S) (q : Nat) (w h : Int) (hq : mj_tg S q = 3) (hT : pset (I q 3) w h ≠ I q 3 → Q (some (.inl 1)) (mj_up I q 3 (pset (I q 3) w h)) S) (hF : pset (I q 3) w h = I q 3 → Q (some (.inl 0)) (mj_up I q 3 (pset (I q 3) w h)) S) : mj_C d 26 [.inr q, .inl w, .inl h] I S Q := by
  unfold pset at hT hF
  refine x_C false [.inr (4, 0, q, 0), .inl w, .inl h] [] 40 hS ⟨xok_t (by omega) (by decide) (by decide), trivial, trivial, trivial⟩ ?_
  by_cases hh : h = 0
  · rw [if_pos hh] at hT hF
    (repeat' (first | rw [mj_up_s] | with_reducible assumption | with_reducible exact rfl | with_reducible exact trivial | (with_reducible (show (_ : Int) ≤ _); omega) | (with_reducible (show (_ : Int) < _); omega) | (with_reducible (show (_ : Nat) < _); omega) | (with_reducible (show (_ : Nat) ≤ _); omega) | with_reducible exact Or.inl rfl | with_reducible exact Or.inr rfl | with_reducible exact Or.inl trivial | with_reducible exact Or.inr trivial | (intro hz; exact absurd hz (by decide)) | (intro hz; exfalso; omega) | refine And.intro ?_ ?_ | intro _))
    · exact hF (by assumption)
    · exact hT (by assumption)
  · rw [if_neg hh] at hT hF
    (repeat' (first | rw [mj_up_s] | with_reducible assumption | with_reducible exact rfl | with_reducible exact trivial | (with_reducible (show (_ : Int) ≤ _); omega) | (with_reducible (show (_ : Int) < _); omega) | (with_reducible (show (_ : Nat) < _); omega) | (with_reducible (show (_ : Nat) ≤ _); omega) | with_reducible exact Or.inl rfl | with_reducible exact Or.inr rfl | with_reducible exact Or.inl trivial | with_reducible exact Or.inr trivial | (intro hz; exact absurd hz (by decide)) | (intro hz; exfalso; omega) | refine And.intro ?_ ?_ | intro _))
    · exact hF (by assumption)
    · exact hT (by assumption)
/-- 207 has -/
theorem m_has {d : Nat} {I : mj_I} {S : mj_S} {Q : mj_Q} (hS : mk_Sh S) (p w h : Int) (hp : 0 ≤ p ∧ p < 7) (hc : 0 ≤ I 150 4 ∧ I 150 4 ≤ 100000)
    (hG : ∀ J, J = mj_up (up I 151 (8 + 8 * p + 3) (pset (rd I 151 (8 + 8 * p + 3)) w h)) 150 4 (I 150 4 + 1) → Q (some (.inl (if pset (rd I 151 (8 + 8 * p + 3)) w h ≠ rd I 151 (8 + 8 * p + 3) then 1 else 0))) J S) : mj_C d 207 [.inr 150, .inl p, .inl w, .inl h] I S Q := by
  unfold pset at hG
  refine x_C false [.inr (13, 0, 150, 0), .inl p, .inl w, .inl h] [] 60 hS ⟨xok_m hS, trivial, trivial, trivial, trivial⟩ ?_
  by_cases hh : h = 0
  · rw [if_pos hh] at hG
    (repeat' (first | simp (disch := omega) only [rd_up, rd_uo, rd_mu, up_f, mu_f, mj_up_s, ru_s, ru_n] | with_reducible assumption | with_reducible exact rfl | with_reducible exact trivial | (with_reducible (show (_ : Int) ≤ _); omega) | (with_reducible (show (_ : Int) < _); omega) | (with_reducible (show (_ : Nat) < _); omega) | (with_reducible (show (_ : Nat) ≤ _); omega) | with_reducible exact Or.inl rfl | with_reducible exact Or.inr rfl | with_reducible exact Or.inl trivial | with_reducible exact Or.inr trivial | (intro hz; exact absurd hz (by decide)) | (intro hz; exfalso; omega) | refine And.intro ?_ ?_ | intro _))
    · rename_i z
      exact Qe (hG _ rfl) (by rw [if_pos (fun q => z q.symm)])
    · rename_i z
      exact Qe (hG _ rfl) (by rw [if_neg (fun q => q z.symm)])
  · rw [if_neg hh] at hG
    (repeat' (first | simp (disch := omega) only [rd_up, rd_uo, rd_mu, up_f, mu_f, mj_up_s, ru_s, ru_n] | with_reducible assumption | with_reducible exact rfl | with_reducible exact trivial | (with_reducible (show (_ : Int) ≤ _); omega) | (with_reducible (show (_ : Int) < _); omega) | (with_reducible (show (_ : Nat) < _); omega) | (with_reducible (show (_ : Nat) ≤ _); omega) | with_reducible exact Or.inl rfl | with_reducible exact Or.inr rfl | with_reducible exact Or.inl trivial | with_reducible exact Or.inr trivial | (intro hz; exact absurd hz (by decide)) | (intro hz; exfalso; omega) | refine And.intro ?_ ?_ | intro _))
    · rename_i z
      exact Qe (hG _ rfl) (by rw [if_pos (fun q => z q.symm)])
    · rename_i z
      exact Qe (hG _ rfl) (by rw [if_neg (fun q => q z.symm)])
theorem mu_paper {I : mj_I} {S : mj_S} {N : Int → Int} (hN : Inv N) (hCb : Cb I S 21 N) {v w : Int} (h : Int) (hv : (0 ≤ v ∧ v < N 2) ∧ 0 ≤ w ∧ w ≤ 7) : Inv (ru N (8 + 8 * v + 3) (pset (N (8 + 8 * v + 3)) w h)) ∧ Cb (mj_up I (21 + 15 + v.toNat) 3 (pset (N (8 + 8 * v + 3)) w h)) S 21 (ru N (8 + 8 * v + 3) (pset (N (8 + 8 * v + 3)) w h)) := by
  have hH := hN.1
  have hCH := hCb.1
  unfold InvH at hH
  unfold CbH at hCH
  have hPv := hN.2.1 v hv.1.1 hv.1.2
  have hCv := hCb.2.1 v hv.1.1 hv.1.2
  have hpb := pset_b (P := N (8 + 8 * v + 3)) (w := w) (h := h) (by unfold InvP at hPv; omega) hv.2
  refine upd_P hN hCb (p := v) (by omega) (fun q h1 h2 => by rw [ru_n (by omega)]) (Or.inl (by rw [ru_n (by omega)])) (by rw [ru_n (by omega)]; omega) ?_ (fun a h1 h2 => by simp (disch := omega) only [mu_o]) (fun j hj => by simp (disch := omega) only [mu_f]) (by simp (disch := omega) only [mu_f, ru_n]; omega) ?_
  · unfold InvP at hPv ⊢
    simp (disch := omega) only [ru_s, ru_n]
    omega
  · unfold CbP at hCv ⊢
    simp (disch := omega) only [ru_s, ru_n, mu_f, mj_up_s]
    exact ⟨hCv.1, hCv.2.1, hCv.2.2.1, trivial, hCv.2.2.2.2⟩
theorem P_paper {L : Nat} {xs : Nat → Int32} {n : Nat} (v w b : Int) : Pair L xs n 25 206 [.inl v, .inl w, .inl b] := by
  intro I S hn hR
  have hR0 := hR
  obtain ⟨hS, hO, ⟨hN, hCb⟩, hI, hTp, hWt, hSh, hSl, hMo, hCa, hBd⟩ := hR
  have hH := hN.1
  have hCH := hCb.1
  have hb : mB 21 := Or.inl rfl
  unfold InvH at hH
  unfold CbH at hCH
  by_cases hv : (0 ≤ v ∧ v < rd I 151 2) ∧ (0 ≤ w ∧ w ≤ 7)
  · have hCv := (hCb.2.1 v hv.1.1 hv.1.2).2.2.2.1
    generalize hN0 : rd I 151 = N at *
    obtain ⟨hIn, hCn⟩ := mu_paper hN hCb b hv
    refine pair_mu hn hR0 (if pset (N (8 + 8 * v + 3)) w b ≠ N (8 + 8 * v + 3) then 1 else 0) _ hIn 1 (by omega) (fun Q h => ?_) (fun K Q h151 h150 _ h => ?_)
    · refine x_C false [.inr (1, 0, 20, 0), .inl v, .inl w, .inl b] [] 60 hS ⟨xok_w hS, trivial, trivial, trivial, trivial⟩ ?_
      (repeat' (first | refine c_hasPerson hS hb _ ?_ ?_ ?_ ?_ | refine c_within _ _ _ ?_ ?_ | refine c_setPaper hS _ _ _ (tg_P hS hb (by omega) (by omega)) ?_ ?_ | refine c_oneIf _ ?_ ?_ | with_reducible assumption | with_reducible exact rfl | with_reducible exact trivial | (with_reducible (show (_ : Int) ≤ _); omega) | (with_reducible (show (_ : Int) < _); omega) | (with_reducible (show (_ : Nat) < _); omega) | (with_reducible (show (_ : Nat) ≤ _); omega) | with_reducible exact Or.inl rfl | with_reducible exact Or.inr rfl | with_reducible exact Or.inl trivial | with_reducible exact Or.inr trivial | (intro hz; exact absurd hz (by decide)) | (intro hz; exfalso; omega) | refine And.intro ?_ ?_ | intro _))
      all_goals (rename_i z _; rw [hCv] at z)
      all_goals refine Qe (h _ (fun a ha => by unfold bk at ha; simp (disch := omega) only [mu_o]) (by rw [hCv]; exact hCn)) ?_
      · rw [if_pos z]
      · rw [if_neg (fun q => q z)]
    · unfold RBd at hBd
      have e150 : K 150 4 = I 150 4 := by rw [h150]
      rw [hN0] at h151
      refine x_C false [.inr (13, 0, 150, 0), .inl v, .inl w, .inl b] [] 80 hS ⟨xok_m hS, trivial, trivial, trivial, trivial⟩ ?_
      (repeat' (first | rw [h151] | refine m_isPerson hS _ ?_ ?_ ?_ ?_ | refine c_in _ _ _ ?_ ?_ | refine m_has hS _ _ _ ?_ ?_ (fun J hJ => ?_) | with_reducible assumption | with_reducible exact rfl | with_reducible exact trivial | (with_reducible (show (_ : Int) ≤ _); omega) | (with_reducible (show (_ : Int) < _); omega) | (with_reducible (show (_ : Nat) < _); omega) | (with_reducible (show (_ : Nat) ≤ _); omega) | with_reducible exact Or.inl rfl | with_reducible exact Or.inr rfl | with_reducible exact Or.inl trivial | with_reducible exact Or.inr trivial | (intro hz; exact absurd hz (by decide)) | (intro hz; exfalso; omega) | refine And.intro ?_ ?_ | intro _))
      rw [hJ, h151]
      (refine Qe (h _ ?_ ?_ (fun j hj => ?_) ?_) ?_) <;> first | exact ((fr.refl.up (Or.inr (Or.inl rfl)) _ _).mu (Or.inl rfl) _ _) | (simp (disch := omega) only [rd_mu, rd_up, h151]; done) | (simp (disch := omega) only [mu_f, up_f]; done) | (simp (disch := omega) only [mj_up_s, up_f]; done) | rw [if_pos (by assumption)] | rw [if_neg (by assumption)] | rfl | omega
  · refine pair_no hn hR0 (-1000000001) (fun Q h => ?_) (fun Q h => ?_)
    · refine x_C false [.inr (1, 0, 20, 0), .inl v, .inl w, .inl b] [] 60 hS ⟨xok_w hS, trivial, trivial, trivial, trivial⟩ ?_
      (repeat' (first | refine c_hasPerson hS hb _ ?_ ?_ ?_ ?_ | refine c_within _ _ _ ?_ ?_ | with_reducible assumption | with_reducible exact rfl | with_reducible exact trivial | (with_reducible (show (_ : Int) ≤ _); omega) | (with_reducible (show (_ : Int) < _); omega) | (with_reducible (show (_ : Nat) < _); omega) | (with_reducible (show (_ : Nat) ≤ _); omega) | with_reducible exact Or.inl rfl | with_reducible exact Or.inr rfl | with_reducible exact Or.inl trivial | with_reducible exact Or.inr trivial | (intro hz; exact absurd hz (by decide)) | (intro hz; exfalso; omega) | refine And.intro ?_ ?_ | intro _))
      all_goals exact h
    · refine x_C false [.inr (13, 0, 150, 0), .inl v, .inl w, .inl b] [] 60 hS ⟨xok_m hS, trivial, trivial, trivial, trivial⟩ ?_
      (repeat' (first | refine m_isPerson hS _ ?_ ?_ ?_ ?_ | refine c_in _ _ _ ?_ ?_ | with_reducible assumption | with_reducible exact rfl | with_reducible exact trivial | (with_reducible (show (_ : Int) ≤ _); omega) | (with_reducible (show (_ : Int) < _); omega) | (with_reducible (show (_ : Nat) < _); omega) | (with_reducible (show (_ : Nat) ≤ _); omega) | with_reducible exact Or.inl rfl | with_reducible exact Or.inr rfl | with_reducible exact Or.inl trivial | with_reducible exact Or.inr trivial | (intro hz; exact absurd hz (by decide)) | (intro hz; exfalso; omega) | refine And.intro ?_ ?_ | intro _))
      all_goals exact h
theorem P_turns {L : Nat} {xs : Nat → Int32} {n : Nat} (v w : Int) : Pair L xs n 61 230 [.inl v, .inl w] := by
  intro I S hn hR
  have hR0 := hR
  obtain ⟨hS, hO, ⟨hN, hCb⟩, hI, hTp, hWt, hSh, hSl, hMo, hCa, hBd⟩ := hR
  have hH := hN.1
  have hCH := hCb.1
  have hb : mB 21 := Or.inl rfl
  unfold InvH at hH
  unfold CbH at hCH
  by_cases hv : (0 ≤ v ∧ v < rd I 151 4) ∧ (0 ≤ w ∧ w ≤ 5)
  · have hPv := hN.2.2.2.1 v hv.1.1 hv.1.2
    have hCv := hCb.2.2.2.1 v hv.1.1 hv.1.2
    generalize hN0 : rd I 151 = N at *
    have ez : (8 : Int) = 8 := rfl
    obtain ⟨hIn, hCn⟩ := upd_R (K := mj_up I (21 + 28 + v.toNat) 0 w) (N' := ru N (88 + 4 * v) w) hN hCb (p := v) (by omega) (fun q h1 h2 => by rw [ru_n (by omega)]) (Or.inl (by rw [ru_n (by omega)])) (by rw [ru_n (by omega)]; omega)
      (by
        unfold InvR at hPv ⊢
        rw [show 88 + 4 * v + 0 = 88 + 4 * v by omega] at hPv ⊢
        simp (disch := omega) only [ru_s, ru_n]
        omega)
      (fun a h1 h2 => by simp (disch := omega) only [mu_o]) (fun j hj => by simp (disch := omega) only [mu_f]) (by simp (disch := omega) only [mu_f, ru_n]; omega)
      (by
        unfold CbR at hCv ⊢
        rw [show 88 + 4 * v + 0 = 88 + 4 * v by omega] at hCv ⊢
        simp (disch := omega) only [ru_s, ru_n, mu_f, mj_up_s]
        exact ⟨trivial, hCv.2⟩)
    have e0 : I (21 + 28 + v.toNat) 0 = N (88 + 4 * v + 0) := hCv.1
    refine pair_mu hn hR0 (N (88 + 4 * v + 0)) _ hIn 1 (by omega) (fun Q h => ?_) (fun K Q h151 h150 _ h => ?_)
    · refine x_C false [.inr (1, 0, 20, 0), .inl v, .inl w] [] 60 hS ⟨xok_w hS, trivial, trivial, trivial⟩ ?_
      (repeat' (first | refine c_hasRule hS hb _ ?_ ?_ ?_ ?_ | refine c_isKind _ ?_ ?_ ?_ | with_reducible assumption | with_reducible exact rfl | with_reducible exact trivial | (with_reducible (show (_ : Int) ≤ _); omega) | (with_reducible (show (_ : Int) < _); omega) | (with_reducible (show (_ : Nat) < _); omega) | (with_reducible (show (_ : Nat) ≤ _); omega) | with_reducible exact Or.inl rfl | with_reducible exact Or.inr rfl | with_reducible exact Or.inl trivial | with_reducible exact Or.inr trivial | (intro hz; exact absurd hz (by decide)) | (intro hz; exfalso; omega) | refine And.intro ?_ ?_ | intro _))
      exact Qe (h _ (fun a ha => by unfold bk at ha; simp (disch := omega) only [mu_o]) hCn) e0.symm
    · unfold RBd at hBd
      have e150 : K 150 4 = I 150 4 := by rw [h150]
      rw [hN0] at h151
      refine x_C false [.inr (13, 0, 150, 0), .inl v, .inl w] [] 80 hS ⟨xok_m hS, trivial, trivial, trivial⟩ ?_
      (repeat' (first | rw [h151] | refine m_isRule hS _ ?_ ?_ ?_ ?_ | refine c_in _ _ _ ?_ ?_ | refine m_rule4 hS _ _ ?_ ?_ ?_ | simp (disch := omega) only [rd_up, rd_uo, rd_mu, up_f, mu_f, mj_up_s, ru_s, ru_n] | with_reducible assumption | with_reducible exact rfl | with_reducible exact trivial | (with_reducible (show (_ : Int) ≤ _); omega) | (with_reducible (show (_ : Int) < _); omega) | (with_reducible (show (_ : Nat) < _); omega) | (with_reducible (show (_ : Nat) ≤ _); omega) | with_reducible exact Or.inl rfl | with_reducible exact Or.inr rfl | with_reducible exact Or.inl trivial | with_reducible exact Or.inr trivial | (intro hz; exact absurd hz (by decide)) | (intro hz; exfalso; omega) | refine And.intro ?_ ?_ | intro _))
      (refine Qe (h _ ?_ ?_ (fun j hj => ?_) ?_) ?_) <;> first | exact ((fr.refl.up (Or.inr (Or.inl rfl)) _ _).mu (Or.inl rfl) _ _) | (simp (disch := omega) only [rd_mu, rd_up, h151]; done) | (simp (disch := omega) only [mu_f, up_f]; done) | (simp (disch := omega) only [mj_up_s, up_f]; done) | rw [if_pos (by assumption)] | rw [if_neg (by assumption)] | rfl | omega
  · refine pair_no hn hR0 (-1000000001) (fun Q h => ?_) (fun Q h => ?_)
    · refine x_C false [.inr (1, 0, 20, 0), .inl v, .inl w] [] 60 hS ⟨xok_w hS, trivial, trivial, trivial⟩ ?_
      (repeat' (first | refine c_hasRule hS hb _ ?_ ?_ ?_ ?_ | refine c_isKind _ ?_ ?_ ?_ | with_reducible assumption | with_reducible exact rfl | with_reducible exact trivial | (with_reducible (show (_ : Int) ≤ _); omega) | (with_reducible (show (_ : Int) < _); omega) | (with_reducible (show (_ : Nat) < _); omega) | (with_reducible (show (_ : Nat) ≤ _); omega) | with_reducible exact Or.inl rfl | with_reducible exact Or.inr rfl | with_reducible exact Or.inl trivial | with_reducible exact Or.inr trivial | (intro hz; exact absurd hz (by decide)) | (intro hz; exfalso; omega) | refine And.intro ?_ ?_ | intro _))
      all_goals exact h
    · refine x_C false [.inr (13, 0, 150, 0), .inl v, .inl w] [] 60 hS ⟨xok_m hS, trivial, trivial, trivial⟩ ?_
      (repeat' (first | refine m_isRule hS _ ?_ ?_ ?_ ?_ | refine c_in _ _ _ ?_ ?_ | with_reducible assumption | with_reducible exact rfl | with_reducible exact trivial | (with_reducible (show (_ : Int) ≤ _); omega) | (with_reducible (show (_ : Int) < _); omega) | (with_reducible (show (_ : Nat) < _); omega) | (with_reducible (show (_ : Nat) ≤ _); omega) | with_reducible exact Or.inl rfl | with_reducible exact Or.inr rfl | with_reducible exact Or.inl trivial | with_reducible exact Or.inr trivial | (intro hz; exact absurd hz (by decide)) | (intro hz; exfalso; omega) | refine And.intro ?_ ?_ | intro _))
      all_goals exact h
