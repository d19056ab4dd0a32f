/-! keep, back, check -/
def kpX (a : Nat) : Prop := tbX 61 a ∨ a = 20 ∨ a = 150 ∨ a = 152
theorem Rel_keep {L : Nat} {xs : Nat → Int32} {n : Nat} {I J : mj_I} {S T : mj_S} (hn : n < 64) (h : Rel L xs n I S) (hT : sK 61 21 14 S T) (hf : fr kpX I J) (h20 : ∀ k, k ≠ 2 → J 20 k = I 20 k) (h202 : J 20 2 = 1) (h150 : ∀ k, k ≠ 3 → J 150 k = I 150 k) (h1503 : J 150 3 = 1) (h152 : rd J 152 = rd I 151) (hCJ : Cb J T 61 (rd I 151)) : Rel L xs (n + 1) J T := by
  obtain ⟨hS, hO, hA, hI, hTp, hW, hSh, hSl, hM, hC, hB⟩ := h
  have hb61 : mB 61 := Or.inr rfl
  have hb21 : mB 21 := Or.inl rfl
  obtain ⟨e1, e2, e3, e4⟩ := sK_2 hT
  have e : ∀ {a : Nat}, ¬ kpX a → J a = I a := fun q => hf _ q
  have er : ∀ {a : Nat}, ¬ kpX a → rd J a = rd I a := fun q => hf.r q
  have r151 : rd J 151 = rd I 151 := er (by unfold kpX tbX; omega)
  refine ⟨sK_Sh hb61 hT hS, ⟨fun a ha => ?_, ⟨fun a ha => ⟨?_, ?_⟩, RX_S hb61 hb21 hT hO.2.1.2⟩, ?_⟩, ⟨?_, ?_⟩, ⟨Or.inr h202, ?_, fun q => ⟨?_, ?_⟩⟩, ?_, ?_, ?_, ?_, ?_, ?_, ?_⟩
  · rw [e (by unfold kpX tbX; omega)]; exact hO.1 a ha
  · rw [← (hO.2.1.1 a ha).1]
    exact funext (fun j => hT.2.1 a j (by omega))
  · rw [← (hO.2.1.1 a ha).2, hT.1]
  · rw [er (a := 157) (by unfold kpX tbX; omega), er (a := 158) (by unfold kpX tbX; omega)]; exact hO.2.2
  · rw [r151]; exact hA.1
  · rw [r151]
    exact Cb_S hb61 hT hb21 (by omega) (hA.2.fr hA.1.1 hf (fun a q => by unfold bc at q; unfold kpX tbX; omega))
  · rw [h1503, h202]
  · rw [h152]; exact hA.1
  · rw [h152]; exact hCJ
  · exact RT_s hTp (by rw [e (by unfold kpX tbX; omega)]) (h150 8 (by decide)) (er (by unfold kpX tbX; omega)) (er (by unfold kpX tbX; omega))
  · exact RW_s hW (h20 9 (by decide)) (h150 47 (by decide)) (er (by unfold kpX tbX; omega)) (er (by unfold kpX tbX; omega))
  · exact RSh_s hSh (fun a a0 a1 => e (by unfold kpX tbX; omega)) (er (by unfold kpX tbX; omega)) (er (by unfold kpX tbX; omega)) (er (by unfold kpX tbX; omega))
  · exact RSl_s hSl (fun a a0 a1 => e (by unfold kpX tbX; omega)) (er (by unfold kpX tbX; omega)) (er (by unfold kpX tbX; omega)) (er (by unfold kpX tbX; omega)) (er (by unfold kpX tbX; omega))
  · unfold RM at hM ⊢
    rw [er (a := 154) (by unfold kpX tbX; omega)]
    exact hM
  · intro q
    rw [h150 27 (by decide), h150 4 (by decide)] at q
    rw [r151, h150 26 (by decide)]
    exact (hC q).fr (h150 28 (by decide)) (h150 31 (by decide)) (h150 32 (by decide)) (er (by unfold kpX tbX; omega)) (er (by unfold kpX tbX; omega)) (er (by unfold kpX tbX; omega)) (er (by unfold kpX tbX; omega))
  · unfold RBd at hB ⊢
    rw [h150 27 (by decide), h150 4 (by decide), e3, e4]
    omega
theorem ok_row {S : mj_S} (hS : mk_Sh S) : xok S (21, 0, 151, 1610) ∧ xok S (21, 0, 152, 1610) ∧ xok S (21, 0, 153, 1610) := ⟨x_chq_ok hS (by decide +kernel), x_chq_ok hS (by decide +kernel), x_chq_ok hS (by decide +kernel)⟩
/-- 295 keep -/
theorem m_keep {d : Nat} {I : mj_I} {S : mj_S} {Q : mj_Q} (hS : mk_Sh S) (hd : 0 < d) (h : ∀ A, fr (fun a => a = 150 ∨ a = 152) I A → (∀ k, k ≠ 3 → A 150 k = I 150 k) → A 150 3 = 1 → rd A 152 = rd I 151 → Q (some (.inl (rd I 151 1))) A S) : mj_C d 295 [.inr 150] I S Q := by
  refine x_C false [.inr (13, 0, 150, 0)] [] 30 hS ⟨xok_m hS, trivial⟩ ?_
  (repeat' (first | refine m_copyAll hS _ _ (ok_row hS).1 (ok_row hS).2.1 (by omega) (fun A hA h152 => ?_) | with_reducible assumption | with_reducible exact rfl | with_reducible exact trivial | (with_reducible (show (_ : Int) ≤ _); omega) | (with_reducible (show (_ : Int) < _); omega) | (with_reducible (show (_ : Nat) < _); omega) | (with_reducible (show (_ : Nat) ≤ _); omega) | with_reducible exact Or.inl rfl | with_reducible exact Or.inr rfl | with_reducible exact Or.inl trivial | with_reducible exact Or.inr trivial | (intro hz; exact absurd hz (by decide)) | (intro hz; exfalso; omega) | refine And.intro ?_ ?_ | intro _))
  refine Qe (h (mj_up A 150 3 1) ((hA.mo (Y := fun a => a = 150 ∨ a = 152) (fun a q => Or.inr q)).mu (by omega) _ _) (fun k hk => by rw [mu_f (by omega), hA.f (by omega)]) mj_up_s (by rw [rd_mu (by omega), h152])) ?_
  rw [rd_mu (by omega), hA.r (by omega)]
/-- 296 back -/
theorem m_back {d : Nat} {I : mj_I} {S : mj_S} {Q : mj_Q} (hS : mk_Sh S) (hd : 0 < d) (h3 : I 150 3 = 1) (h4 : 0 ≤ I 150 4 ∧ I 150 4 ≤ 100000) (h : ∀ A, fr (fun a => a = 150 ∨ a = 151) I A → (∀ k, k ≠ 4 → A 150 k = I 150 k) → A 150 4 = I 150 4 + 1 → rd A 151 = rd I 152 → Q (some (.inl (rd I 152 1))) A S) : mj_C d 296 [.inr 150] I S Q := by
  refine x_C false [.inr (13, 0, 150, 0)] [] 30 hS ⟨xok_m hS, trivial⟩ ?_
  (repeat' (first | refine m_copyAll hS _ _ (ok_row hS).2.1 (ok_row hS).1 (by omega) (fun A hA h151 => ?_) | with_reducible assumption | with_reducible exact rfl | with_reducible exact trivial | (with_reducible (show (_ : Int) ≤ _); omega) | (with_reducible (show (_ : Int) < _); omega) | (with_reducible (show (_ : Nat) < _); omega) | (with_reducible (show (_ : Nat) ≤ _); omega) | with_reducible exact Or.inl rfl | with_reducible exact Or.inr rfl | with_reducible exact Or.inl trivial | with_reducible exact Or.inr trivial | (intro hz; exact absurd hz (by decide)) | (intro hz; exfalso; omega) | refine And.intro ?_ ?_ | intro _))
  · rw [hA.f (by omega)]; omega
  · rw [hA.f (by omega)]; omega
  · refine Qe (h (mj_up A 150 4 (A 150 4 + 1)) ((hA.mo (Y := fun a => a = 150 ∨ a = 151) (fun a q => Or.inr q)).mu (by omega) _ _) (fun k hk => by rw [mu_f (by omega), hA.f (by omega)]) (by rw [mj_up_s, hA.f (by omega)]) (by rw [rd_mu (by omega), h151])) ?_
    rw [rd_mu (by omega), h151]
theorem P_keep {L : Nat} {xs : Nat → Int32} {n : Nat} : Pair L xs n 186 295 [] := by
  intro I S hn hR
  have hR0 := hR
  obtain ⟨hS, hO, ⟨hN, hCb⟩, hI, hTp, hWt, hSh, hSl, hMo, hCa, hBd⟩ := hR
  have hH := hN.1
  have hCH := hCb.1
  have hb : mB 21 := Or.inl rfl
  unfold InvH at hH
  unfold CbH at hCH
  have e13 : I 21 13 = rd I 151 1 := hCH.2.1
  have hb61 : mB 61 := Or.inr rfl
  have f0 : mj_rf S 20 0 = 21 := hS.r 20 0 (by decide +kernel)
  have f1 : mj_rf S 20 1 = 61 := hS.r 20 1 (by decide +kernel)
  have tg : mj_tg S 20 = 0 := hS.t 20 (t := 0) (n := 11) (by decide +kernel)
  have tg61 : mj_tg S 61 = 1 := hS.t 61 (t := 1) (n := 18) (by decide +kernel)
  refine mj_C_of 20 ?_
  refine And.intro tg ?_
  refine And.intro tg ?_
  refine And.intro (by rw [f1]; exact tg61) ?_
  refine And.intro (by omega) ?_
  rw [f0, f1]
  refine c_takeB hS hb61 hb (by omega) hN hCb hO.2.1.2 (by omega) (fun J T hT hJ hCJ => ?_)
  have hST := sK_Sh hb61 hT hS
  have hX : xW 400 186 5 [some (.inr (1, 0, 20, 0))] [] J T (fun r I' S' => ∃ v, r = some (.inl v) ∧ (I' 1 = I 1 ∧ S'.2.1 1 = S.2.1 1 ∧ S'.2.1 150 = S.2.1 150) ∧ mj_C 400 295 [.inr 150] I' S' (fun r' I'' S'' => r' = some (.inl v) ∧ Rel L xs (n + 1) I'' S'')) := by
    refine x_hd false [] 20 ?_
    (repeat' (first | with_reducible assumption | with_reducible exact rfl | with_reducible exact trivial | (with_reducible (show (_ : Int) ≤ _); omega) | (with_reducible (show (_ : Int) < _); omega) | (with_reducible (show (_ : Nat) < _); omega) | (with_reducible (show (_ : Nat) ≤ _); omega) | with_reducible exact Or.inl rfl | with_reducible exact Or.inr rfl | with_reducible exact Or.inl trivial | with_reducible exact Or.inr trivial | (intro hz; exact absurd hz (by decide)) | (intro hz; exfalso; omega) | refine And.intro ?_ ?_ | intro _))
    refine ⟨rd I 151 1, ?_, ⟨?_, by rw [hT.1], by rw [hT.1]⟩, ?_⟩
    · rw [mu_f (by omega), hJ.f (by unfold tbX; omega), e13]
    · rw [mu_o (by omega), hJ 1 (by unfold tbX; omega)]
    · have e151 : rd (mj_up J 20 2 1) 151 = rd I 151 := by rw [rd_mu (by omega), hJ.r (by unfold tbX; omega)]
      rw [← e151]
      refine m_keep hST (by omega) (fun A hA a1 a2 a3 => ⟨rfl, ?_⟩)
      rw [e151] at a3
      refine Rel_keep hn hR0 hT (fun c hc => ?_) (fun k hk => ?_) ?_ (fun k hk => ?_) a2 a3 ?_
      · rw [hA c (by unfold kpX at hc; omega), mu_o (by unfold kpX at hc; omega), hJ c (fun q => hc (Or.inl q))]
      · rw [hA.f (by omega), mu_f (by omega), hJ.f (by unfold tbX; omega)]
      · rw [hA.f (by omega), mj_up_s]
      · rw [a1 k hk, mu_f (by omega), hJ.f (by unfold tbX; omega)]
      · have hfK : fr (fun a => a = 20 ∨ a = 150 ∨ a = 152) J A := ((fr.refl (X := fun a => a = 20 ∨ a = 150 ∨ a = 152)).mu (by omega) _ _).tr (hA.mo (fun a q => by omega))
        exact hCJ.fr hN.1 hfK (fun a q => by unfold bc at q; omega)
  exact mj_vc_of (hX.u hST ⟨xok_w hST, trivial⟩ trivial)
def bkX (a : Nat) : Prop := tbX 21 a ∨ a = 150 ∨ a = 151
theorem Rel_back {L : Nat} {xs : Nat → Int32} {n : Nat} {I J : mj_I} {S T : mj_S} (hn : n < 64) (h : Rel L xs n I S) (h2 : I 20 2 = 1) (hT : sK 21 61 14 S T) (hf : fr bkX I J) (h150 : ∀ k, k ≠ 4 → J 150 k = I 150 k) (h1504 : J 150 4 = I 150 4 + 1) (h151 : rd J 151 = rd I 152) (hCJ : Cb J T 21 (rd I 152)) : Rel L xs (n + 1) J T := by
  obtain ⟨hS, hO, hA, hI, hTp, hW, hSh, hSl, hM, hC, hB⟩ := h
  have hb61 : mB 61 := Or.inr rfl
  have hb21 : mB 21 := Or.inl rfl
  obtain ⟨e1, e2, e3, e4⟩ := sK_2 hT
  have e : ∀ {a : Nat}, ¬ bkX a → J a = I a := fun q => hf _ q
  have er : ∀ {a : Nat}, ¬ bkX a → rd J a = rd I a := fun q => hf.r q
  have r152 : rd J 152 = rd I 152 := er (by unfold bkX tbX; omega)
  have e20 : J 20 = I 20 := e (by unfold bkX tbX; omega)
  refine ⟨sK_Sh hb21 hT hS, ⟨fun a ha => ?_, ⟨fun a ha => ⟨?_, ?_⟩, RX_S hb21 hb61 hT hO.2.1.2⟩, ?_⟩, ⟨?_, ?_⟩, ⟨?_, ?_, fun q => ⟨?_, ?_⟩⟩, ?_, ?_, ?_, ?_, ?_, ?_, ?_⟩
  · rw [e (by unfold bkX tbX; omega)]; exact hO.1 a ha
  · rw [← (hO.2.1.1 a ha).1]
    exact funext (fun j => hT.2.1 a j (by omega))
  · rw [← (hO.2.1.1 a ha).2, hT.1]
  · rw [er (a := 157) (by unfold bkX tbX; omega), er (a := 158) (by unfold bkX tbX; omega)]; exact hO.2.2
  · rw [h151]; exact (hI.2.2 h2).1
  · rw [h151]; exact hCJ
  · rw [e20]; exact hI.1
  · rw [e20, h150 3 (by decide)]; exact hI.2.1
  · rw [r152]; exact (hI.2.2 h2).1
  · rw [r152]
    exact Cb_S hb21 hT hb61 (by omega) ((hI.2.2 h2).2.fr (hI.2.2 h2).1.1 hf (fun a q => by unfold bc at q; unfold bkX tbX; omega))
  · exact RT_s hTp (by rw [e (by unfold bkX tbX; omega)]) (h150 8 (by decide)) (er (by unfold bkX tbX; omega)) (er (by unfold bkX tbX; omega))
  · exact RW_s hW (by rw [e20]) (h150 47 (by decide)) (er (by unfold bkX tbX; omega)) (er (by unfold bkX tbX; omega))
  · exact RSh_s hSh (fun a a0 a1 => e (by unfold bkX tbX; omega)) (er (by unfold bkX tbX; omega)) (er (by unfold bkX tbX; omega)) (er (by unfold bkX tbX; omega))
  · exact RSl_s hSl (fun a a0 a1 => e (by unfold bkX tbX; omega)) (er (by unfold bkX tbX; omega)) (er (by unfold bkX tbX; omega)) (er (by unfold bkX tbX; omega)) (er (by unfold bkX tbX; omega))
  · unfold RM at hM ⊢
    rw [er (a := 154) (by unfold bkX tbX; omega)]
    exact hM
  · intro q
    unfold RBd at hB
    rw [h150 27 (by decide), h1504] at q
    omega
  · unfold RBd at hB ⊢
    rw [h150 27 (by decide), h1504, e3, e4]
    omega
theorem P_back {L : Nat} {xs : Nat → Int32} {n : Nat} : Pair L xs n 191 296 [] := by
  intro I S hn hR
  have hR0 := hR
  obtain ⟨hS, hO, ⟨hN, hCb⟩, hI, hTp, hWt, hSh, hSl, hMo, hCa, hBd⟩ := hR
  have hH := hN.1
  have hCH := hCb.1
  have hb : mB 21 := Or.inl rfl
  unfold InvH at hH
  unfold CbH at hCH
  have hb61 : mB 61 := Or.inr rfl
  have hI2 := hI
  unfold RI at hI2
  by_cases h2 : I 20 2 = 1
  · obtain ⟨hNi, hCi⟩ := hI.2.2 h2
    have e13 : I 61 13 = rd I 152 1 := hCi.1.2.1
    have hBd2 := hBd
    unfold RBd at hBd2
    have f0 : mj_rf S 20 0 = 21 := hS.r 20 0 (by decide +kernel)
    have f1 : mj_rf S 20 1 = 61 := hS.r 20 1 (by decide +kernel)
    have tg : mj_tg S 20 = 0 := hS.t 20 (t := 0) (n := 11) (by decide +kernel)
    have tg21 : mj_tg S 21 = 1 := hS.t 21 (t := 1) (n := 18) (by decide +kernel)
    refine mj_C_of 20 ?_
    refine And.intro tg ?_
    refine And.intro (fun _ => ?_) (fun q => absurd q (fun q2 => by omega))
    refine And.intro tg ?_
    refine And.intro tg ?_
    refine And.intro (by rw [f0]; exact tg21) ?_
    refine And.intro (by omega) ?_
    rw [f0, f1]
    refine c_takeB hS hb hb61 (by omega) hNi hCi hO.2.1.2 (by omega) (fun J T hT hJ hCJ => ?_)
    have hST := sK_Sh hb hT hS
    have j13 : J 21 13 = rd I 152 1 := hCJ.1.2.1
    have hX : xW 400 191 10 [some (.inr (1, 0, 20, 0))] [] J T (fun r I' S' => ∃ v, r = some (.inl v) ∧ (I' 1 = I 1 ∧ S'.2.1 1 = S.2.1 1 ∧ S'.2.1 150 = S.2.1 150) ∧ mj_C 400 296 [.inr 150] I' S' (fun r' I'' S'' => r' = some (.inl v) ∧ Rel L xs (n + 1) I'' S'')) := by
      refine x_hd false [] 20 ?_
      (repeat' (first | with_reducible assumption | with_reducible exact rfl | with_reducible exact trivial | (with_reducible (show (_ : Int) ≤ _); omega) | (with_reducible (show (_ : Int) < _); omega) | (with_reducible (show (_ : Nat) < _); omega) | (with_reducible (show (_ : Nat) ≤ _); omega) | with_reducible exact Or.inl rfl | with_reducible exact Or.inr rfl | with_reducible exact Or.inl trivial | with_reducible exact Or.inr trivial | (intro hz; exact absurd hz (by decide)) | (intro hz; exfalso; omega) | refine And.intro ?_ ?_ | intro _))
      refine ⟨rd I 152 1, by rw [j13], ⟨hJ 1 (by unfold tbX; omega), by rw [hT.1], by rw [hT.1]⟩, ?_⟩
      have e150 : ∀ k, J 150 k = I 150 k := fun k => hJ.f (by unfold tbX; omega) k
      have e3 : J 150 3 = 1 := by rw [e150]; omega
      have e4 : J 150 4 = I 150 4 := e150 4
      have e152 : rd J 152 = rd I 152 := hJ.r (by unfold tbX; omega)
      rw [← e152]
      refine m_back hST (by omega) e3 (by omega) (fun A hA a1 a2 a3 => ⟨rfl, ?_⟩)
      rw [e152] at a3
      refine Rel_back hn hR0 h2 hT (fun c hc => ?_) (fun k hk => by rw [a1 k hk, e150]) (by rw [a2, e4]) a3 ?_
      · rw [hA c (by unfold bkX at hc; omega), hJ c (fun q => hc (Or.inl q))]
      · exact hCJ.fr hNi.1 hA (fun a q => by unfold bc at q; omega)
    exact mj_vc_of (hX.u hST ⟨xok_w hST, trivial⟩ trivial)
  · refine pair_no hn hR0 (-1000000002) (fun Q h => ?_) (fun Q h => ?_)
    · refine x_C false [.inr (1, 0, 20, 0)] [] 30 hS ⟨xok_w hS, trivial⟩ ?_
      (repeat' (first | with_reducible assumption | with_reducible exact rfl | with_reducible exact trivial | (with_reducible (show (_ : Int) ≤ _); omega) | (with_reducible (show (_ : Int) < _); omega) | (with_reducible (show (_ : Nat) < _); omega) | (with_reducible (show (_ : Nat) ≤ _); omega) | with_reducible exact Or.inl rfl | with_reducible exact Or.inr rfl | with_reducible exact Or.inl trivial | with_reducible exact Or.inr trivial | (intro hz; exact absurd hz (by decide)) | (intro hz; exfalso; omega) | refine And.intro ?_ ?_ | intro _))
      exact h
    · have e3 : I 150 3 = 0 := by omega
      refine x_C false [.inr (13, 0, 150, 0)] [] 30 hS ⟨xok_m hS, trivial⟩ ?_
      (repeat' (first | with_reducible assumption | with_reducible exact rfl | with_reducible exact trivial | (with_reducible (show (_ : Int) ≤ _); omega) | (with_reducible (show (_ : Int) < _); omega) | (with_reducible (show (_ : Nat) < _); omega) | (with_reducible (show (_ : Nat) ≤ _); omega) | with_reducible exact Or.inl rfl | with_reducible exact Or.inr rfl | with_reducible exact Or.inl trivial | with_reducible exact Or.inr trivial | (intro hz; exact absurd hz (by decide)) | (intro hz; exfalso; omega) | refine And.intro ?_ ?_ | intro _))
      exact h
/-- the check: 151 is as before -/
def ckX (a : Nat) : Prop := a = 20 ∨ a = 150 ∨ a = 151 ∨ (165 ≤ a ∧ a ≤ 168) ∨ scr a
theorem Rel_ck {L : Nat} {xs : Nat → Int32} {n : Nat} {I J : mj_I} {S : mj_S} (hn : n < 64) (h : Rel L xs n I S) (hf : fr ckX I J) (h20 : ∀ k, k ≠ 9 → J 20 k = I 20 k) (h209 : J 20 9 = 0) (h150 : ∀ k, k ≠ 4 → k ≠ 26 → k ≠ 27 → k ≠ 28 → k ≠ 31 → k ≠ 32 → k ≠ 47 → J 150 k = I 150 k) (h47 : J 150 47 = 0) (h151 : rd J 151 = rd I 151) (h4 : J 150 4 = I 150 4 + 2) (h27 : J 150 27 = I 150 27 ∨ J 150 27 = I 150 4 + 1) : Rel L xs (n + 1) J S := by
  obtain ⟨hS, hO, hA, hI, hTp, hW, hSh, hSl, hM, hC, hB⟩ := h
  have e : ∀ {a : Nat}, ¬ ckX a → J a = I a := fun q => hf _ q
  have er : ∀ {a : Nat}, ¬ ckX a → rd J a = rd I a := fun q => hf.r q
  have r152 : rd J 152 = rd I 152 := er (by unfold ckX scr; omega)
  have hB' := hB
  unfold RBd at hB'
  refine ⟨hS, ⟨fun a ha => ?_, hO.2.1, ?_⟩, ⟨?_, ?_⟩, ⟨?_, ?_, fun q => ?_⟩, ?_, ?_, ?_, ?_, ?_, ?_, ?_⟩
  · rw [e (by unfold ckX scr; omega)]; exact hO.1 a ha
  · rw [er (a := 157) (by unfold ckX scr; omega), er (a := 158) (by unfold ckX scr; omega)]; exact hO.2.2
  · rw [h151]; exact hA.1
  · rw [h151]; exact hA.2.fr hA.1.1 hf (fun a q => by unfold bc at q; unfold ckX scr; omega)
  · rw [h20 2 (by decide)]; exact hI.1
  · rw [h20 2 (by decide), h150 3 (by decide) (by decide) (by decide) (by decide) (by decide) (by decide) (by decide)]; exact hI.2.1
  · rw [h20 2 (by decide)] at q
    rw [r152]
    exact ⟨(hI.2.2 q).1, (hI.2.2 q).2.fr (hI.2.2 q).1.1 hf (fun a q => by unfold bc at q; unfold ckX scr; omega)⟩
  · exact RT_s hTp (by rw [e (by unfold ckX scr; omega)]) (h150 8 (by decide) (by decide) (by decide) (by decide) (by decide) (by decide) (by decide)) (er (by unfold ckX scr; omega)) (er (by unfold ckX scr; omega))
  · unfold RW
    rw [h209, h47]
    exact ⟨rfl, by omega, fun k k0 k1 => by omega⟩
  · exact RSh_s hSh (fun a a0 a1 => e (by unfold ckX scr; omega)) (er (by unfold ckX scr; omega)) (er (by unfold ckX scr; omega)) (er (by unfold ckX scr; omega))
  · exact RSl_s hSl (fun a a0 a1 => e (by unfold ckX scr; omega)) (er (by unfold ckX scr; omega)) (er (by unfold ckX scr; omega)) (er (by unfold ckX scr; omega)) (er (by unfold ckX scr; omega))
  · unfold RM at hM ⊢
    rw [er (a := 154) (by unfold ckX scr; omega)]
    exact hM
  · intro q
    omega
  · unfold RBd
    omega
