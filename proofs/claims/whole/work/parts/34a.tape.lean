/-! tell, trim, feed -/
theorem RT_s {I J : mj_I} (h : RT I) (e1 : J 115 1 = I 115 1) (e2 : J 150 8 = I 150 8) (e3 : rd J 116 = rd I 116) (e4 : rd J 156 = rd I 156) : RT J := by
  unfold RT at h ⊢
  rw [e1, e2, e3, e4]
  exact h
theorem RW_s {I J : mj_I} (h : RW I) (e1 : J 20 9 = I 20 9) (e2 : J 150 47 = I 150 47) (e3 : rd J 120 = rd I 120) (e4 : rd J 180 = rd I 180) : RW J := by
  unfold RW at h ⊢
  rw [e1, e2, e3, e4]
  exact h
theorem RSh_s {I J : mj_I} (h : RSh I) (e1 : ∀ a, 122 ≤ a → a ≤ 129 → J a = I a) (e2 : rd J 172 = rd I 172) (e3 : rd J 173 = rd I 173) (e4 : rd J 174 = rd I 174) : RSh J := by
  intro s h0 h1
  have q := h s h0 h1
  unfold RS1 at q ⊢
  rw [e1 _ (by omega) (by omega), e2, e3, e4, rd_oo (e1 (122 + 2 * s.toNat + 1) (by omega) (by omega))]
  exact q
theorem RSl_s {I J : mj_I} (h : RSl I) (e1 : ∀ a, 130 ≤ a → a ≤ 149 → J a = I a) (e2 : rd J 175 = rd I 175) (e3 : rd J 176 = rd I 176) (e4 : rd J 177 = rd I 177) (e5 : rd J 178 = rd I 178) : RSl J := by
  intro k h0 h1
  have q := h k h0 h1
  unfold RL1 at q ⊢
  rw [e1 _ (by omega) (by omega), e1 (130 + 4 * k.toNat + 1) (by omega) (by omega), e1 (130 + 4 * k.toNat + 2) (by omega) (by omega), rd_oo (e1 (130 + 4 * k.toNat + 2 + 1) (by omega) (by omega)), e2, e3, e4, e5]
  exact q
def ocl (a : Nat) : Prop := a = 20 ∨ a = 115 ∨ a = 116 ∨ a = 120 ∨ (122 ≤ a ∧ a ≤ 149) ∨ scr a
def omd (a : Nat) : Prop := a = 150 ∨ a = 156 ∨ (172 ≤ a ∧ a ≤ 178) ∨ a = 180 ∨ scr a
theorem pair_ot {L : Nat} {xs : Nat → Int32} {n xf mf : Nat} {as : List mj_V} {I : mj_I} {S : mj_S} (hn : n < 64) (hR : Rel L xs n I S) (v : Int) (PK : mj_I → Prop)
    (hc : ∀ Q : mj_Q, (∀ K, fr ocl I K → (∀ k, k ≠ 9 → K 20 k = I 20 k) → PK K → Q (some (.inl v)) K S) → mj_C 400 xf (.inr 20 :: as) I S Q)
    (hm : ∀ (K : mj_I) (Q : mj_Q), fr ocl I K → PK K → K 150 = I 150 → (∀ a, 150 ≤ a → ¬ scr a → K a = I a) → (∀ J, fr omd K J → (∀ k, k ≠ 8 → k ≠ 47 → J 150 k = K 150 k) → RT J → RW J → RSh J → RSl J → Q (some (.inl v)) J S) → mj_C 400 mf (.inr 150 :: as) K S Q) :
    mj_C 400 xf (.inr 20 :: as) I S (fun r I' S' => ∃ v, r = some (.inl v) ∧ (I' 1 = I 1 ∧ S'.2.1 1 = S.2.1 1 ∧ S'.2.1 150 = S.2.1 150) ∧ mj_C 400 mf (.inr 150 :: as) I' S' (fun r' I'' S'' => r' = some (.inl v) ∧ Rel L xs (n + 1) I'' S'')) := by
  refine hc _ (fun K hK h20 hP => ⟨v, rfl, ⟨hK 1 (by unfold ocl scr; omega), rfl, rfl⟩, ?_⟩)
  have e150 : K 150 = I 150 := hK 150 (by unfold ocl scr; omega)
  refine hm K _ hK hP e150 (fun a h1 h2 => hK a (by unfold scr at h2; unfold ocl scr; omega)) (fun J hJ h150 hT hW hSh hSl => ⟨rfl, ?_⟩)
  refine Rel_oth hn hR ((hK.mo (fun a q => by unfold ocl scr at q; unfold oth scr; omega)).tr (hJ.mo (fun a q => by unfold omd scr at q; unfold oth scr; omega))) (fun k hk => ?_) (fun k h8 h47 => by rw [h150 k h8 h47, e150]) hT hW hSh hSl
  rw [hJ 20 (by unfold omd scr; omega)]
  exact h20 k hk
theorem P_tell {L : Nat} {xs : Nat → Int32} {n : Nat} (v : Int) : Pair L xs n 183 292 [.inl v] := by
  intro I S hn hR
  have hR0 := hR
  obtain ⟨hS, hO, ⟨hN, hCb⟩, hI, hTp, hWt, hSh, hSl, hMo, hCa, hBd⟩ := hR
  have hH := hN.1
  have hCH := hCb.1
  have hb : mB 21 := Or.inl rfl
  unfold InvH at hH
  unfold CbH at hCH
  have hW := hWt
  unfold RW at hW
  by_cases hf : I 150 47 = 60
  · refine pair_no hn hR0 (-1000000003) (fun Q h => ?_) (fun Q h => ?_)
    · refine x_C false [.inr (1, 0, 20, 0), .inl v] [] 30 hS ⟨xok_w hS, trivial, trivial⟩ ?_
      (repeat' (first | with_reducible assumption | with_reducible exact rfl | with_reducible exact trivial | (with_reducible (show (_ : Int) ≤ _); omega) | (with_reducible (show (_ : Int) < _); omega) | (with_reducible (show (_ : Nat) < _); omega) | (with_reducible (show (_ : Nat) ≤ _); omega) | with_reducible exact Or.inl rfl | with_reducible exact Or.inr rfl | with_reducible exact Or.inl trivial | with_reducible exact Or.inr trivial | (intro hz; exact absurd hz (by decide)) | (intro hz; exfalso; omega) | refine And.intro ?_ ?_ | intro _))
      all_goals exact h
    · refine x_C false [.inr (13, 0, 150, 0), .inl v] [] 30 hS ⟨xok_m hS, trivial, trivial⟩ ?_
      (repeat' (first | with_reducible assumption | with_reducible exact rfl | with_reducible exact trivial | (with_reducible (show (_ : Int) ≤ _); omega) | (with_reducible (show (_ : Int) < _); omega) | (with_reducible (show (_ : Nat) < _); omega) | (with_reducible (show (_ : Nat) ≤ _); omega) | with_reducible exact Or.inl rfl | with_reducible exact Or.inr rfl | with_reducible exact Or.inl trivial | with_reducible exact Or.inr trivial | (intro hz; exact absurd hz (by decide)) | (intro hz; exfalso; omega) | refine And.intro ?_ ?_ | intro _))
      all_goals exact h
  · generalize hw : I 150 47 = w at *
    have e9 : I 20 9 = w := by omega
    refine pair_ot hn hR0 (w + 1) (fun K => K = mj_up (up I 120 w v) 20 9 (w + 1)) (fun Q h => ?_) (fun K Q hK hP h150 h151 h => ?_)
    · refine x_C false [.inr (1, 0, 20, 0), .inl v] [] 30 hS ⟨xok_w hS, trivial, trivial⟩ ?_
      (repeat' (first | rw [e9] | rw [mj_up_s] | rw [up_f (by decide)] | with_reducible assumption | with_reducible exact rfl | with_reducible exact trivial | (with_reducible (show (_ : Int) ≤ _); omega) | (with_reducible (show (_ : Int) < _); omega) | (with_reducible (show (_ : Nat) < _); omega) | (with_reducible (show (_ : Nat) ≤ _); omega) | with_reducible exact Or.inl rfl | with_reducible exact Or.inr rfl | with_reducible exact Or.inl trivial | with_reducible exact Or.inr trivial | (intro hz; exact absurd hz (by decide)) | (intro hz; exfalso; omega) | refine And.intro ?_ ?_ | intro _))
      exact h _ (((fr.refl (X := ocl)).up (by unfold ocl; omega) _ _).mu (Or.inl rfl) _ _) (fun k hk => by rw [mu_f (by omega), up_f (by decide)]) rfl
    · have e47 : K 150 47 = w := by rw [h150, hw]
      refine x_C false [.inr (13, 0, 150, 0), .inl v] [] 30 hS ⟨xok_m hS, trivial, trivial⟩ ?_
      (repeat' (first | rw [e47] | rw [mj_up_s] | rw [up_f (by decide)] | with_reducible assumption | with_reducible exact rfl | with_reducible exact trivial | (with_reducible (show (_ : Int) ≤ _); omega) | (with_reducible (show (_ : Int) < _); omega) | (with_reducible (show (_ : Nat) < _); omega) | (with_reducible (show (_ : Nat) ≤ _); omega) | with_reducible exact Or.inl rfl | with_reducible exact Or.inr rfl | with_reducible exact Or.inl trivial | with_reducible exact Or.inr trivial | (intro hz; exact absurd hz (by decide)) | (intro hz; exfalso; omega) | refine And.intro ?_ ?_ | intro _))
      subst hP
      refine h _ (((fr.refl (X := omd)).up (by unfold omd; omega) _ _).mu (Or.inl rfl) _ _) (fun k h8 h47 => by rw [mu_f (by omega), up_f (by decide)]) ?_ ?_ ?_ ?_
      · exact RT_s hTp (by simp (disch := omega) only [mu_f, up_f]) (by simp (disch := omega) only [mu_f, up_f]) (by simp (disch := omega) only [rd_mu, rd_uo]) (by simp (disch := omega) only [rd_mu, rd_uo])
      · unfold RW
        simp (disch := omega) only [mu_f, up_f, mj_up_s, rd_mu, rd_uo, rd_up]
        refine ⟨trivial, by omega, fun k h0 h1 => ?_⟩
        by_cases e : k = w
        · subst e
          rw [ru_s, ru_s]
        · rw [ru_n e, ru_n e]
          exact hW.2.2 k h0 (by omega)
      · exact RSh_s hSh (fun a h1 h2 => by simp (disch := omega) only [mu_o, up_o]) (by simp (disch := omega) only [rd_mu, rd_uo]) (by simp (disch := omega) only [rd_mu, rd_uo]) (by simp (disch := omega) only [rd_mu, rd_uo])
      · exact RSl_s hSl (fun a h1 h2 => by simp (disch := omega) only [mu_o, up_o]) (by simp (disch := omega) only [rd_mu, rd_uo]) (by simp (disch := omega) only [rd_mu, rd_uo]) (by simp (disch := omega) only [rd_mu, rd_uo]) (by simp (disch := omega) only [rd_mu, rd_uo])
theorem P_trim {L : Nat} {xs : Nat → Int32} {n : Nat} (v : Int) : Pair L xs n 68 234 [.inl v] := by
  intro I S hn hR
  have hR0 := hR
  obtain ⟨hS, hO, ⟨hN, hCb⟩, hI, hTp, hWt, hSh, hSl, hMo, hCa, hBd⟩ := hR
  have hH := hN.1
  have hCH := hCb.1
  have hb : mB 21 := Or.inl rfl
  unfold InvH at hH
  unfold CbH at hCH
  have hT := hTp
  unfold RT at hT
  by_cases hv : 0 ≤ v ∧ v ≤ I 150 8
  · refine pair_ot hn hR0 v (fun K => K = mj_up I 115 1 v) (fun Q h => ?_) (fun K Q hK hP h150 h151 h => ?_)
    · refine x_C false [.inr (1, 0, 20, 0), .inl v] [] 30 hS ⟨xok_w hS, trivial, trivial⟩ ?_
      (repeat' (first | refine c_within _ _ _ ?_ ?_ | with_reducible assumption | with_reducible exact rfl | with_reducible exact trivial | (with_reducible (show (_ : Int) ≤ _); omega) | (with_reducible (show (_ : Int) < _); omega) | (with_reducible (show (_ : Nat) < _); omega) | (with_reducible (show (_ : Nat) ≤ _); omega) | with_reducible exact Or.inl rfl | with_reducible exact Or.inr rfl | with_reducible exact Or.inl trivial | with_reducible exact Or.inr trivial | (intro hz; exact absurd hz (by decide)) | (intro hz; exfalso; omega) | refine And.intro ?_ ?_ | intro _))
      exact h _ ((fr.refl (X := ocl)).mu (by unfold ocl; omega) _ _) (fun k hk => mu_f (by omega)) rfl
    · have e8 : K 150 8 = I 150 8 := by rw [h150]
      refine x_C false [.inr (13, 0, 150, 0), .inl v] [] 30 hS ⟨xok_m hS, trivial, trivial⟩ ?_
      (repeat' (first | refine c_in _ _ _ ?_ ?_ | with_reducible assumption | with_reducible exact rfl | with_reducible exact trivial | (with_reducible (show (_ : Int) ≤ _); omega) | (with_reducible (show (_ : Int) < _); omega) | (with_reducible (show (_ : Nat) < _); omega) | (with_reducible (show (_ : Nat) ≤ _); omega) | with_reducible exact Or.inl rfl | with_reducible exact Or.inr rfl | with_reducible exact Or.inl trivial | with_reducible exact Or.inr trivial | (intro hz; exact absurd hz (by decide)) | (intro hz; exfalso; omega) | refine And.intro ?_ ?_ | intro _))
      subst hP
      refine h _ ((fr.refl (X := omd)).mu (Or.inl rfl) _ _) (fun k h8 h47 => mu_f (by omega)) ?_ ?_ ?_ ?_
      · unfold RT
        simp (disch := omega) only [mu_f, mj_up_s, rd_mu]
        exact ⟨trivial, by omega, fun k h0 h1 => hT.2.2 k h0 (by omega)⟩
      · exact RW_s hWt (by simp (disch := omega) only [mu_f]) (by simp (disch := omega) only [mu_f]) (by simp (disch := omega) only [rd_mu]) (by simp (disch := omega) only [rd_mu])
      · exact RSh_s hSh (fun a h1 h2 => by simp (disch := omega) only [mu_o]) (by simp (disch := omega) only [rd_mu]) (by simp (disch := omega) only [rd_mu]) (by simp (disch := omega) only [rd_mu])
      · exact RSl_s hSl (fun a h1 h2 => by simp (disch := omega) only [mu_o]) (by simp (disch := omega) only [rd_mu]) (by simp (disch := omega) only [rd_mu]) (by simp (disch := omega) only [rd_mu]) (by simp (disch := omega) only [rd_mu])
  · refine pair_no hn hR0 (-1000000001) (fun Q h => ?_) (fun Q h => ?_)
    · refine x_C false [.inr (1, 0, 20, 0), .inl v] [] 30 hS ⟨xok_w hS, trivial, trivial⟩ ?_
      (repeat' (first | refine c_within _ _ _ ?_ ?_ | with_reducible assumption | with_reducible exact rfl | with_reducible exact trivial | (with_reducible (show (_ : Int) ≤ _); omega) | (with_reducible (show (_ : Int) < _); omega) | (with_reducible (show (_ : Nat) < _); omega) | (with_reducible (show (_ : Nat) ≤ _); omega) | with_reducible exact Or.inl rfl | with_reducible exact Or.inr rfl | with_reducible exact Or.inl trivial | with_reducible exact Or.inr trivial | (intro hz; exact absurd hz (by decide)) | (intro hz; exfalso; omega) | refine And.intro ?_ ?_ | intro _))
      all_goals exact h
    · refine x_C false [.inr (13, 0, 150, 0), .inl v] [] 30 hS ⟨xok_m hS, trivial, trivial⟩ ?_
      (repeat' (first | refine c_in _ _ _ ?_ ?_ | with_reducible assumption | with_reducible exact rfl | with_reducible exact trivial | (with_reducible (show (_ : Int) ≤ _); omega) | (with_reducible (show (_ : Int) < _); omega) | (with_reducible (show (_ : Nat) < _); omega) | (with_reducible (show (_ : Nat) ≤ _); omega) | with_reducible exact Or.inl rfl | with_reducible exact Or.inr rfl | with_reducible exact Or.inl trivial | with_reducible exact Or.inr trivial | (intro hz; exact absurd hz (by decide)) | (intro hz; exfalso; omega) | refine And.intro ?_ ?_ | intro _))
      all_goals exact h
