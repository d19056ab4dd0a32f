/-! sign -/
def sgW (N : Int → Int) (s p : Int) : Int → Int := fun q => if q = s then p else sgn N q
theorem sgW_b {N : Int → Int} (hN : Inv N) {s p : Int} (hp : 0 ≤ p ∧ p < N 2) (q : Int) : -1 ≤ sgW N s p q ∧ sgW N s p q < N 2 := by
  unfold sgW
  split
  · omega
  · exact sgn_b hN q
theorem P_sign {L : Nat} {xs : Nat → Int32} {n : Nat} (s p : Int) : Pair L xs n 151 270 [.inl s, .inl p] := by
  intro I S hn hR
  have hR0 := hR
  obtain ⟨hS, hO, ⟨hN, hCb⟩, hI, hTp, hWt, hSh, hSl, hMo, hCa, hBd⟩ := hR
  have hH := hN.1
  have hCH := hCb.1
  have hb : mB 21 := Or.inl rfl
  unfold InvH at hH
  unfold CbH at hCH
  by_cases hv : (0 ≤ s ∧ s < rd I 151 3) ∧ (0 ≤ p ∧ p < rd I 151 2)
  · have hCs := hCb.2.2.1 s hv.1.1 hv.1.2
    have hSs := hN.2.2.1 s hv.1.1 hv.1.2
    unfold CbS at hCs
    have e13 : I 21 13 = rd I 151 1 := hCH.2.1
    have e3 : I (21 + 22 + s.toNat) 3 = rd I 151 (64 + 4 * s + 3) := hCs.2.2.2
    by_cases h1 : 0 ≤ rd I 151 (64 + 4 * s + 3)
    · refine pair_no hn hR0 (-1000000002) (fun Q h => ?_) (fun Q h => ?_)
      · refine x_C false [.inr (1, 0, 20, 0), .inl s, .inl p] [] 60 hS ⟨xok_w hS, trivial, trivial, trivial⟩ ?_
        (repeat' (first | refine c_hasStep hS hb _ ?_ ?_ ?_ ?_ | refine c_hasPerson hS hb _ ?_ ?_ ?_ ?_ | with_reducible assumption | with_reducible exact rfl | with_reducible exact trivial | (with_reducible (show (_ : Int) ≤ _); omega) | (with_reducible (show (_ : Int) < _); omega) | (with_reducible (show (_ : Nat) < _); omega) | (with_reducible (show (_ : Nat) ≤ _); omega) | with_reducible exact Or.inl rfl | with_reducible exact Or.inr rfl | with_reducible exact Or.inl trivial | with_reducible exact Or.inr trivial | (intro hz; exact absurd hz (by decide)) | (intro hz; exfalso; omega) | refine And.intro ?_ ?_ | intro _))
        all_goals exact h
      · refine x_C false [.inr (13, 0, 150, 0), .inl s, .inl p] [] 60 hS ⟨xok_m hS, trivial, trivial, trivial⟩ ?_
        (repeat' (first | refine m_isStep hS _ ?_ ?_ ?_ ?_ | refine m_isPerson hS _ ?_ ?_ ?_ ?_ | refine m_of4 hS _ _ ?_ ?_ ?_ | with_reducible assumption | with_reducible exact rfl | with_reducible exact trivial | (with_reducible (show (_ : Int) ≤ _); omega) | (with_reducible (show (_ : Int) < _); omega) | (with_reducible (show (_ : Nat) < _); omega) | (with_reducible (show (_ : Nat) ≤ _); omega) | with_reducible exact Or.inl rfl | with_reducible exact Or.inr rfl | with_reducible exact Or.inl trivial | with_reducible exact Or.inr trivial | (intro hz; exact absurd hz (by decide)) | (intro hz; exfalso; omega) | refine And.intro ?_ ?_ | intro _))
        all_goals exact h
    · by_cases h2 : mayS (rd I 151) z0 p s (rd I 151 1) = true
      · by_cases h3 : brkS (rd I 151) (sgW (rd I 151) s p) < 0
        · -- it is signed
          generalize hN0 : rd I 151 = N at *
          obtain ⟨hI1, -⟩ := upd_S (K := mj_up I (21 + 22 + s.toNat) 3 p) (N' := ru N (64 + 4 * s + 3) p) hN hCb (p := s) (by omega) (fun q h1 h2 => by rw [ru_n (by omega)]) (Or.inl (by rw [ru_n (by omega)])) (by rw [ru_n (by omega)]; omega)
            (by
              unfold InvS at hSs ⊢
              simp (disch := omega) only [ru_s, ru_n]
              omega)
            (fun a h1 h2 => by simp (disch := omega) only [mu_o]) (fun j hj => by simp (disch := omega) only [mu_f]) (by simp (disch := omega) only [mu_f, ru_n]; omega)
            (by
              unfold CbS
              simp (disch := omega) only [ru_s, ru_n, mu_f, mj_up_s]
              exact ⟨hCs.1, hCs.2.1, hCs.2.2.1, trivial⟩)
          have hdd : (0 ≤ N 1 ∧ N 1 ≤ 999) ∧ (0 ≤ s ∧ s < ru N (64 + 4 * s + 3) p 3) ∧ (0 ≤ p ∧ p < ru N (64 + 4 * s + 3) p 2) := by
            rw [ru_n (by omega), ru_n (by omega)]
            omega
          have hIn : Inv (apF (ru N (64 + 4 * s + 3) p) (N 1) s p) := apF_inv hI1 hdd
          refine pair_mu hn hR0 (csS (apF (ru N (64 + 4 * s + 3) p) (N 1) s p)) _ hIn 1 (by omega) (fun Q h => ?_) (fun K Q h151 h150 hK61 h => ?_)
          · refine x_C false [.inr (1, 0, 20, 0), .inl s, .inl p] [] 80 hS ⟨xok_w hS, trivial, trivial, trivial⟩ ?_
            (repeat' (first | rw [e13] | rw [e3] | refine c_hasStep hS hb _ ?_ ?_ ?_ ?_ | refine c_hasPerson hS hb _ ?_ ?_ ?_ ?_ | refine c_mayDo hS hb hN hCb _ _ _ ?_ ?_ ?_ ?_ (fun z => absurd h2 (by rw [z]; decide)) | with_reducible assumption | with_reducible exact rfl | with_reducible exact trivial | (with_reducible (show (_ : Int) ≤ _); omega) | (with_reducible (show (_ : Int) < _); omega) | (with_reducible (show (_ : Nat) < _); omega) | (with_reducible (show (_ : Nat) ≤ _); omega) | with_reducible exact Or.inl rfl | with_reducible exact Or.inr rfl | with_reducible exact Or.inl trivial | with_reducible exact Or.inr trivial | (intro hz; exact absurd hz (by decide)) | (intro hz; exfalso; omega) | refine And.intro ?_ ?_ | intro _))
            rename_i K1 hK1 _
            have hK1s := scr2 hb hK1
            have hC1 := hCb.fr hN.1 hK1s (fun a q => bc_scr hb q)
            refine c_signers hS hb hN hC1 (by omega) (fun K2 hK2 hW2 => ?_)
            (repeat' (first | refine ⟨(21, 0, 21 + 14, 6), ⟨rfl, ok_do hS hb⟩, ?_⟩ | with_reducible assumption | with_reducible exact rfl | with_reducible exact trivial | (with_reducible (show (_ : Int) ≤ _); omega) | (with_reducible (show (_ : Int) < _); omega) | (with_reducible (show (_ : Nat) < _); omega) | (with_reducible (show (_ : Nat) ≤ _); omega) | with_reducible exact Or.inl rfl | with_reducible exact Or.inr rfl | with_reducible exact Or.inl trivial | with_reducible exact Or.inr trivial | (intro hz; exact absurd hz (by decide)) | (intro hz; exfalso; omega) | refine And.intro ?_ ?_ | intro _))
            have hK3 : fr (fun a => a = 21 + 14) K1 (up K2 (21 + 14) s p) := hK2.up rfl _ _
            have hK3s : fr scr I (up K2 (21 + 14) s p) := hK1s.tr (scr14 hb hK3)
            have hC3 := hCb.fr hN.1 hK3s (fun a q => bc_scr hb q)
            have hW3 : ∀ q, 0 ≤ q → q < 6 → rd (up K2 (21 + 14) s p) (21 + 14) q = sgW N s p q := by
              intro q h0 h6
              rw [rd_up (by omega) (by omega)]
              unfold ru sgW
              by_cases e : q = s
              · rw [if_pos e, if_pos e]
              · rw [if_neg e, if_neg e]
                exact hW2 q h0 h6
            refine c_firstBroken hS hb hN hC3 (by omega) (fun q h0 h6 => by rw [hW3 q h0 h6]; exact sgW_b hN hv.2 q) ?_
            rw [brkS_c hN (W' := sgW N s p) (fun q h0 h1 => hW3 q h0 (by omega))]
            have e13b : mj_up (up K2 (21 + 14) s p) (21 + 22 + s.toNat) 3 p 21 13 = N 1 := by
              rw [mu_f (by omega), hK3s.f (by unfold scr; omega)]
              exact e13
            (repeat' (first | rw [e13b] | with_reducible assumption | with_reducible exact rfl | with_reducible exact trivial | (with_reducible (show (_ : Int) ≤ _); omega) | (with_reducible (show (_ : Int) < _); omega) | (with_reducible (show (_ : Nat) < _); omega) | (with_reducible (show (_ : Nat) ≤ _); omega) | with_reducible exact Or.inl rfl | with_reducible exact Or.inr rfl | with_reducible exact Or.inl trivial | with_reducible exact Or.inr trivial | (intro hz; exact absurd hz (by decide)) | (intro hz; exfalso; omega) | refine And.intro ?_ ?_ | intro _))
            have hCs3 := hC3.2.2.1 s hv.1.1 hv.1.2
            have hCH3 := hC3.1
            unfold CbS at hCs3
            unfold CbH at hCH3
            obtain ⟨-, hC4⟩ := upd_S (K := mj_up (up K2 (21 + 14) s p) (21 + 22 + s.toNat) 3 p) (N' := ru N (64 + 4 * s + 3) p) hN hC3 (p := s) (by omega) (fun q h1 h2 => by rw [ru_n (by omega)]) (Or.inl (by rw [ru_n (by omega)])) (by rw [ru_n (by omega)]; omega)
              (by
                unfold InvS at hSs ⊢
                simp (disch := omega) only [ru_s, ru_n]
                omega)
              (fun a h1 h2 => by rw [mu_o h2]) (fun j hj => by rw [mu_f (by omega)]) (by rw [mu_f (by omega), ru_n (by omega)]; omega)
              (by
                unfold CbS
                simp (disch := omega) only [ru_s, ru_n, mu_f, mj_up_s]
                exact ⟨hCs3.1, hCs3.2.1, hCs3.2.2.1, trivial⟩)
            refine c_append hS hI1 hC4 (by omega) _ _ _ hdd (fun J hJ hIJ hCJ => ?_)
            (repeat' (first | refine c_countSigned hS hb hIJ hCJ ?_ ?_ | with_reducible assumption | with_reducible exact rfl | with_reducible exact trivial | (with_reducible (show (_ : Int) ≤ _); omega) | (with_reducible (show (_ : Int) < _); omega) | (with_reducible (show (_ : Nat) < _); omega) | (with_reducible (show (_ : Nat) ≤ _); omega) | with_reducible exact Or.inl rfl | with_reducible exact Or.inr rfl | with_reducible exact Or.inl trivial | with_reducible exact Or.inr trivial | (intro hz; exact absurd hz (by decide)) | (intro hz; exfalso; omega) | refine And.intro ?_ ?_ | intro _))
            refine h J (fun a ha => ?_) hCJ
            rw [hJ a (by unfold bk at ha; omega) (by unfold bk at ha; omega), mu_o (by unfold bk at ha; omega)]
            exact hK3s a (fun q => ha (Or.inr q))
          · unfold RBd at hBd
            have e150 : K 150 4 = I 150 4 := by rw [h150]
            rw [hN0] at h151
            have hMK : RM K := by
              unfold RM
              rw [rd_oo (hK61 154 (by omega) (by unfold scr; omega))]
              exact hMo
            have hNK : Inv (rd K 151) := by rw [h151]; exact hN
            have hend : ∀ (w : Option xV) (J : mj_I) (M : Int → Int), fr mk5 K J → J 150 = K 150 → rd J 151 = M → M 1 = N 1 → (0 ≤ M 7 ∧ M 7 < 30) → apL M (M 7) (N 1) s p = apF (ru N (64 + 4 * s + 3) p) (N 1) s p → xW 400 270 84 [some (.inr (13, 0, 150, 0)), some (.inl s), some (.inl p), w] [] J S Q := by
              intro w J M hJ hJ150 hM hM1 hM7 hap
              have a1 : rd J 151 7 = M 7 := by rw [hM]
              have a2 : rd J 151 1 = N 1 := by rw [hM, hM1]
              have a4 : J 150 4 = K 150 4 := by rw [hJ150]
              have hend2 : rd (mj_up (up (up (up (up J 151 (148 + 3 * M 7) (N 1)) 151 (148 + 3 * M 7 + 1) s) 151 (148 + 3 * M 7 + 2) p) 151 7 (M 7 + 1)) 150 4 (J 150 4 + 1)) 151 = apF (ru N (64 + 4 * s + 3) p) (N 1) s p := by
                rw [rd_mu (by decide), rd_up (by omega) (by omega), rd_up (by omega) (by omega), rd_up (by omega) (by omega), rd_up (by omega) (by omega), hM]
                exact hap
              refine x_hd false [84] 60 ?_
              (repeat' (first | rw [a1] | rw [a2] | simp (disch := omega) only [rd_up, ru_n, ru_s, up_f, rd_mu, a1, a2] | with_reducible assumption | with_reducible exact rfl | with_reducible exact trivial | (with_reducible (show (_ : Int) ≤ _); omega) | (with_reducible (show (_ : Int) < _); omega) | (with_reducible (show (_ : Nat) < _); omega) | (with_reducible (show (_ : Nat) ≤ _); omega) | with_reducible exact Or.inl rfl | with_reducible exact Or.inr rfl | with_reducible exact Or.inl trivial | with_reducible exact Or.inr trivial | (intro hz; exact absurd hz (by decide)) | (intro hz; exfalso; omega) | refine And.intro ?_ ?_ | intro _))
              refine m_signedMany hS (by rw [hend2]; exact hIn) (by omega) ?_
              rw [hend2]
              (repeat' (first | with_reducible assumption | with_reducible exact rfl | with_reducible exact trivial | (with_reducible (show (_ : Int) ≤ _); omega) | (with_reducible (show (_ : Int) < _); omega) | (with_reducible (show (_ : Nat) < _); omega) | (with_reducible (show (_ : Nat) ≤ _); omega) | with_reducible exact Or.inl rfl | with_reducible exact Or.inr rfl | with_reducible exact Or.inl trivial | with_reducible exact Or.inr trivial | (intro hz; exact absurd hz (by decide)) | (intro hz; exfalso; omega) | refine And.intro ?_ ?_ | intro _))
              have m1 : mk5 151 := Or.inr (Or.inl rfl)
              exact h _ (((((hJ.up m1 _ _).up m1 _ _).up m1 _ _).up m1 _ _).mu (Or.inl rfl) _ _) hend2 (fun j hj => by rw [mu_f (by omega), up_f (by decide), up_f (by decide), up_f (by decide), up_f (by decide), hJ150]) (by rw [mj_up_s, hJ150])
            have hloop : ∀ (A : mj_I), N 7 = 30 → fr mk5 K A → A 150 = K 150 → rd A 151 = ru N (64 + 4 * s + 3) p → ∀ m j : Nat, j + m = 87 → ∀ (kk : Int) (J : mj_I), kk = j → fr mk5 K J → J 150 = K 150 → rd J 151 = shF (ru N (64 + 4 * s + 3) p) j →
                xW 400 270 57 [some (.inr (13, 0, 150, 0)), some (.inl s), some (.inl p), some (.inl kk)] [] J S Q  := by
              intro A h30 hA hA150 hAr m
              induction m with
              | zero =>
                intro j hj kk J h1 h2 h4 h5
                have e7 : rd J 151 7 = 30 := by
                  rw [h5]
                  unfold shF
                  rw [if_neg (by omega), ru_n (by omega), h30]
                refine x_hd false [57, 84] 30 ?_
                (repeat' (first | rw [e7] | with_reducible assumption | with_reducible exact rfl | with_reducible exact trivial | (with_reducible (show (_ : Int) ≤ _); omega) | (with_reducible (show (_ : Int) < _); omega) | (with_reducible (show (_ : Nat) < _); omega) | (with_reducible (show (_ : Nat) ≤ _); omega) | with_reducible exact Or.inl rfl | with_reducible exact Or.inr rfl | with_reducible exact Or.inl trivial | with_reducible exact Or.inr trivial | (intro hz; exact absurd hz (by decide)) | (intro hz; exfalso; omega) | refine And.intro ?_ ?_ | intro _))
                have ej : j = 87 := by omega
                subst ej
                refine hend _ _ (ru (shF (ru N (64 + 4 * s + 3) p) 87) 7 29) (h2.up (Or.inr (Or.inl rfl)) _ _) (by rw [up_o (by decide)]; exact h4) (by rw [rd_up (by decide) (by decide), h5]; rfl) ?_ (by rw [ru_s]; omega) ?_
                · rw [ru_n (by omega)]
                  unfold shF
                  rw [if_neg (by omega), ru_n (by omega)]
                · unfold apF
                  rw [if_pos (by rw [ru_n (by omega)]; exact h30), ru_s]
              | succ m ih =>
                intro j hj kk J h1 h2 h4 h5
                subst h1
                refine x_hd false [57, 84] 30 ?_
                (repeat' (first | with_reducible assumption | with_reducible exact rfl | with_reducible exact trivial | (with_reducible (show (_ : Int) ≤ _); omega) | (with_reducible (show (_ : Int) < _); omega) | (with_reducible (show (_ : Nat) < _); omega) | (with_reducible (show (_ : Nat) ≤ _); omega) | with_reducible exact Or.inl rfl | with_reducible exact Or.inr rfl | with_reducible exact Or.inl trivial | with_reducible exact Or.inr trivial | (intro hz; exact absurd hz (by decide)) | (intro hz; exfalso; omega) | refine And.intro ?_ ?_ | intro _))
                refine ih (j + 1) (by omega) _ _ (by omega) (h2.up (Or.inr (Or.inl rfl)) _ _) (by rw [up_o (by decide)]; exact h4) ?_
                rw [rd_up (by omega) (by omega), h5]
                exact shF_s
            refine x_C false [.inr (13, 0, 150, 0), .inl s, .inl p] [57, 84] 80 hS ⟨xok_m hS, trivial, trivial, trivial⟩ ?_
            (repeat' (first | rw [h151] | refine m_isStep hS _ ?_ ?_ ?_ ?_ | refine m_isPerson hS _ ?_ ?_ ?_ ?_ | refine m_of4 hS _ _ ?_ ?_ ?_ | refine m_may0 hS _ _ _ hNK hMK ?_ ?_ ?_ ?_ (fun z => absurd h2 (by rw [h151] at z; rw [z]; decide)) | with_reducible assumption | with_reducible exact rfl | with_reducible exact trivial | (with_reducible (show (_ : Int) ≤ _); omega) | (with_reducible (show (_ : Int) < _); omega) | (with_reducible (show (_ : Nat) < _); omega) | (with_reducible (show (_ : Nat) ≤ _); omega) | with_reducible exact Or.inl rfl | with_reducible exact Or.inr rfl | with_reducible exact Or.inl trivial | with_reducible exact Or.inr trivial | (intro hz; exact absurd hz (by decide)) | (intro hz; exfalso; omega) | refine And.intro ?_ ?_ | intro _))
            rename_i K1 hK1 _
            have f1 : rd K1 151 = N := by rw [hK1.r (by omega), h151]
            refine m_signedOnes hS (by rw [f1]; exact hN) (by omega) (fun K2 hK2 hW2 => ?_)
            rw [f1] at hW2
            have f2 : rd K2 151 = N := by rw [hK2.r (by omega), f1]
            (repeat' (first | with_reducible assumption | with_reducible exact rfl | with_reducible exact trivial | (with_reducible (show (_ : Int) ≤ _); omega) | (with_reducible (show (_ : Int) < _); omega) | (with_reducible (show (_ : Nat) < _); omega) | (with_reducible (show (_ : Nat) ≤ _); omega) | with_reducible exact Or.inl rfl | with_reducible exact Or.inr rfl | with_reducible exact Or.inl trivial | with_reducible exact Or.inr trivial | (intro hz; exact absurd hz (by decide)) | (intro hz; exfalso; omega) | refine And.intro ?_ ?_ | intro _))
            have f3 : rd (up K2 155 s p) 151 = N := by rw [rd_uo (by decide), f2]
            have hW3 : ∀ q, 0 ≤ q → q < 6 → rd (up K2 155 s p) 155 q = sgW N s p q := by
              intro q h0 h6
              rw [rd_up (by omega) (by omega)]
              unfold ru sgW
              by_cases e : q = s
              · rw [if_pos e, if_pos e]
              · rw [if_neg e, if_neg e]
                exact hW2 q h0 h6
            have eb : brkS (rd (up K2 155 s p) 151) (rd (up K2 155 s p) 155) = brkS N (sgW N s p) := by
              rw [f3]
              exact brkS_c hN (fun q h0 h1 => hW3 q h0 (by omega))
            have hf5 : fr mk5 K (up K2 155 s p) := fr.tr (hK1.mo (fun a q => by unfold mk5 scr; omega)) (fr.up (hK2.mo (fun a q => by unfold mk5 scr; omega)) (by unfold mk5 scr; omega) _ _)
            have h5150 : up K2 155 s p 150 = K 150 := by rw [up_o (by decide), hK2 150 (by omega), hK1 150 (by omega)]
            have hf6 : fr mk5 K (up (up K2 155 s p) 151 (64 + 4 * s + 3) p) := hf5.up (Or.inr (Or.inl rfl)) _ _
            have h6150 : up (up K2 155 s p) 151 (64 + 4 * s + 3) p 150 = K 150 := by rw [up_o (by decide), h5150]
            have h6r : rd (up (up K2 155 s p) 151 (64 + 4 * s + 3) p) 151 = ru N (64 + 4 * s + 3) p := by rw [rd_up (by omega) (by omega), f3]
            have h67 : rd (up (up K2 155 s p) 151 (64 + 4 * s + 3) p) 151 7 = N 7 := by rw [h6r, ru_n (by omega)]
            refine m_allKept hS (by rw [f3]; exact hN) (by omega) (fun q h0 h6 => by rw [f3, hW3 q h0 h6]; exact sgW_b hN hv.2 q) (fun z => ?_) (fun z => absurd h3 (by rw [eb] at z; exact z))
            (repeat' (first | rw [h67] | with_reducible assumption | with_reducible exact rfl | with_reducible exact trivial | (with_reducible (show (_ : Int) ≤ _); omega) | (with_reducible (show (_ : Int) < _); omega) | (with_reducible (show (_ : Nat) < _); omega) | (with_reducible (show (_ : Nat) ≤ _); omega) | with_reducible exact Or.inl rfl | with_reducible exact Or.inr rfl | with_reducible exact Or.inl trivial | with_reducible exact Or.inr trivial | (intro hz; exact absurd hz (by decide)) | (intro hz; exfalso; omega) | refine And.intro ?_ ?_ | intro _))
            · refine hend _ _ (ru N (64 + 4 * s + 3) p) hf6 h6150 h6r (by rw [ru_n (by omega)]) (by rw [ru_n (by omega)]; omega) ?_
              unfold apF
              rw [if_neg (by rw [ru_n (by omega)]; omega)]
            · refine hloop _ (by omega) hf6 h6150 h6r 87 0 (by omega) _ _ rfl hf6 h6150 ?_
              rw [h6r]
              funext q
              unfold shF
              rw [if_neg (by omega)]
        · refine pair_sc hn hR0 (-1000000002) (fun Q h => ?_) (fun K Q hK hRK h => ?_)
          · refine x_C false [.inr (1, 0, 20, 0), .inl s, .inl p] [] 80 hS ⟨xok_w hS, trivial, trivial, trivial⟩ ?_
            (repeat' (first | rw [e13] | rw [e3] | refine c_hasStep hS hb _ ?_ ?_ ?_ ?_ | refine c_hasPerson hS hb _ ?_ ?_ ?_ ?_ | refine c_mayDo hS hb hN hCb _ _ _ ?_ ?_ ?_ ?_ (fun z => absurd h2 (by rw [z]; decide)) | with_reducible assumption | with_reducible exact rfl | with_reducible exact trivial | (with_reducible (show (_ : Int) ≤ _); omega) | (with_reducible (show (_ : Int) < _); omega) | (with_reducible (show (_ : Nat) < _); omega) | (with_reducible (show (_ : Nat) ≤ _); omega) | with_reducible exact Or.inl rfl | with_reducible exact Or.inr rfl | with_reducible exact Or.inl trivial | with_reducible exact Or.inr trivial | (intro hz; exact absurd hz (by decide)) | (intro hz; exfalso; omega) | refine And.intro ?_ ?_ | intro _))
            rename_i K1 hK1 _
            have hK1s := scr2 hb hK1
            have hC1 := hCb.fr hN.1 hK1s (fun a q => bc_scr hb q)
            refine c_signers hS hb hN hC1 (by omega) (fun K2 hK2 hW2 => ?_)
            (repeat' (first | refine ⟨(21, 0, 21 + 14, 6), ⟨rfl, ok_do hS hb⟩, ?_⟩ | with_reducible assumption | with_reducible exact rfl | with_reducible exact trivial | (with_reducible (show (_ : Int) ≤ _); omega) | (with_reducible (show (_ : Int) < _); omega) | (with_reducible (show (_ : Nat) < _); omega) | (with_reducible (show (_ : Nat) ≤ _); omega) | with_reducible exact Or.inl rfl | with_reducible exact Or.inr rfl | with_reducible exact Or.inl trivial | with_reducible exact Or.inr trivial | (intro hz; exact absurd hz (by decide)) | (intro hz; exfalso; omega) | refine And.intro ?_ ?_ | intro _))
            have hK3 : fr (fun a => a = 21 + 14) K1 (up K2 (21 + 14) s p) := hK2.up rfl _ _
            have hK3s : fr scr I (up K2 (21 + 14) s p) := hK1s.tr (scr14 hb hK3)
            have hC3 := hCb.fr hN.1 hK3s (fun a q => bc_scr hb q)
            have hW3 : ∀ q, 0 ≤ q → q < 6 → rd (up K2 (21 + 14) s p) (21 + 14) q = sgW (rd I 151) s p q := by
              intro q h0 h6
              rw [rd_up (by omega) (by omega)]
              unfold ru sgW
              by_cases e : q = s
              · rw [if_pos e, if_pos e]
              · rw [if_neg e, if_neg e]
                exact hW2 q h0 h6
            refine c_firstBroken hS hb hN hC3 (by omega) (fun q h0 h6 => by rw [hW3 q h0 h6]; exact sgW_b hN hv.2 q) ?_
            rw [brkS_c hN (W' := sgW (rd I 151) s p) (fun q h0 h1 => hW3 q h0 (by omega))]
            (repeat' (first | with_reducible assumption | with_reducible exact rfl | with_reducible exact trivial | (with_reducible (show (_ : Int) ≤ _); omega) | (with_reducible (show (_ : Int) < _); omega) | (with_reducible (show (_ : Nat) < _); omega) | (with_reducible (show (_ : Nat) ≤ _); omega) | with_reducible exact Or.inl rfl | with_reducible exact Or.inr rfl | with_reducible exact Or.inl trivial | with_reducible exact Or.inr trivial | (intro hz; exact absurd hz (by decide)) | (intro hz; exfalso; omega) | refine And.intro ?_ ?_ | intro _))
            exact h _ hK3s
          · obtain ⟨-, hO, ⟨hN, hCb⟩, hI, hTp, hWt, hSh, hSl, hMo, hCa, hBd⟩ := hRK
            have e151 : rd K 151 = rd I 151 := hK.r (by unfold scr; omega)
            rw [← e151] at h1 h2 h3 hv hH
            refine x_C false [.inr (13, 0, 150, 0), .inl s, .inl p] [] 60 hS ⟨xok_m hS, trivial, trivial, trivial⟩ ?_
            (repeat' (first | refine m_isStep hS _ ?_ ?_ ?_ ?_ | refine m_isPerson hS _ ?_ ?_ ?_ ?_ | refine m_of4 hS _ _ ?_ ?_ ?_ | refine m_may0 hS _ _ _ hN hMo ?_ ?_ ?_ ?_ (fun z => absurd h2 (by rw [z]; decide)) | with_reducible assumption | with_reducible exact rfl | with_reducible exact trivial | (with_reducible (show (_ : Int) ≤ _); omega) | (with_reducible (show (_ : Int) < _); omega) | (with_reducible (show (_ : Nat) < _); omega) | (with_reducible (show (_ : Nat) ≤ _); omega) | with_reducible exact Or.inl rfl | with_reducible exact Or.inr rfl | with_reducible exact Or.inl trivial | with_reducible exact Or.inr trivial | (intro hz; exact absurd hz (by decide)) | (intro hz; exfalso; omega) | refine And.intro ?_ ?_ | intro _))
            rename_i K1 hK1 _
            have f1 : rd K1 151 = rd K 151 := hK1.r (by omega)
            refine m_signedOnes hS (by rw [f1]; exact hN) (by omega) (fun K2 hK2 hW2 => ?_)
            rw [f1] at hW2
            have f2 : rd K2 151 = rd K 151 := by rw [hK2.r (by omega), f1]
            (repeat' (first | with_reducible assumption | with_reducible exact rfl | with_reducible exact trivial | (with_reducible (show (_ : Int) ≤ _); omega) | (with_reducible (show (_ : Int) < _); omega) | (with_reducible (show (_ : Nat) < _); omega) | (with_reducible (show (_ : Nat) ≤ _); omega) | with_reducible exact Or.inl rfl | with_reducible exact Or.inr rfl | with_reducible exact Or.inl trivial | with_reducible exact Or.inr trivial | (intro hz; exact absurd hz (by decide)) | (intro hz; exfalso; omega) | refine And.intro ?_ ?_ | intro _))
            have f3 : rd (up K2 155 s p) 151 = rd K 151 := by rw [rd_uo (by decide), f2]
            have hW3 : ∀ q, 0 ≤ q → q < 6 → rd (up K2 155 s p) 155 q = sgW (rd K 151) s p q := by
              intro q h0 h6
              rw [rd_up (by omega) (by omega)]
              unfold ru sgW
              by_cases e : q = s
              · rw [if_pos e, if_pos e]
              · rw [if_neg e, if_neg e]
                exact hW2 q h0 h6
            have eb : brkS (rd (up K2 155 s p) 151) (rd (up K2 155 s p) 155) = brkS (rd K 151) (sgW (rd K 151) s p) := by
              rw [f3]
              exact brkS_c hN (fun q h0 h1 => hW3 q h0 (by omega))
            refine m_allKept hS (by rw [f3]; exact hN) (by omega) (fun q h0 h6 => by rw [f3, hW3 q h0 h6]; exact sgW_b hN hv.2 q) (fun z => absurd (by rw [eb] at z; exact z) h3) (fun z => ?_)
            (repeat' (first | with_reducible assumption | with_reducible exact rfl | with_reducible exact trivial | (with_reducible (show (_ : Int) ≤ _); omega) | (with_reducible (show (_ : Int) < _); omega) | (with_reducible (show (_ : Nat) < _); omega) | (with_reducible (show (_ : Nat) ≤ _); omega) | with_reducible exact Or.inl rfl | with_reducible exact Or.inr rfl | with_reducible exact Or.inl trivial | with_reducible exact Or.inr trivial | (intro hz; exact absurd hz (by decide)) | (intro hz; exfalso; omega) | refine And.intro ?_ ?_ | intro _))
            exact h _ ((scr3 hK1).tr (scr155 (hK2.up rfl _ _)))
      · refine pair_sc hn hR0 (-1000000002) (fun Q h => ?_) (fun K Q hK hRK h => ?_)
        · refine x_C false [.inr (1, 0, 20, 0), .inl s, .inl p] [] 60 hS ⟨xok_w hS, trivial, trivial, trivial⟩ ?_
          (repeat' (first | rw [e13] | rw [e3] | refine c_hasStep hS hb _ ?_ ?_ ?_ ?_ | refine c_hasPerson hS hb _ ?_ ?_ ?_ ?_ | refine c_mayDo hS hb hN hCb _ _ _ ?_ ?_ ?_ (fun z => absurd z h2) ?_ | with_reducible assumption | with_reducible exact rfl | with_reducible exact trivial | (with_reducible (show (_ : Int) ≤ _); omega) | (with_reducible (show (_ : Int) < _); omega) | (with_reducible (show (_ : Nat) < _); omega) | (with_reducible (show (_ : Nat) ≤ _); omega) | with_reducible exact Or.inl rfl | with_reducible exact Or.inr rfl | with_reducible exact Or.inl trivial | with_reducible exact Or.inr trivial | (intro hz; exact absurd hz (by decide)) | (intro hz; exfalso; omega) | refine And.intro ?_ ?_ | intro _))
          rename_i K1 hK1 _
          exact h _ (scr2 hb hK1)
        · obtain ⟨-, hO, ⟨hN, hCb⟩, hI, hTp, hWt, hSh, hSl, hMo, hCa, hBd⟩ := hRK
          have e151 : rd K 151 = rd I 151 := hK.r (by unfold scr; omega)
          refine x_C false [.inr (13, 0, 150, 0), .inl s, .inl p] [] 60 hS ⟨xok_m hS, trivial, trivial, trivial⟩ ?_
          (repeat' (first | rw [e151] | refine m_isStep hS _ ?_ ?_ ?_ ?_ | refine m_isPerson hS _ ?_ ?_ ?_ ?_ | refine m_of4 hS _ _ ?_ ?_ ?_ | refine m_may0 hS _ _ _ hN hMo ?_ ?_ ?_ (fun z => absurd (by rw [e151] at z; exact z) h2) ?_ | with_reducible assumption | with_reducible exact rfl | with_reducible exact trivial | (with_reducible (show (_ : Int) ≤ _); omega) | (with_reducible (show (_ : Int) < _); omega) | (with_reducible (show (_ : Nat) < _); omega) | (with_reducible (show (_ : Nat) ≤ _); omega) | with_reducible exact Or.inl rfl | with_reducible exact Or.inr rfl | with_reducible exact Or.inl trivial | with_reducible exact Or.inr trivial | (intro hz; exact absurd hz (by decide)) | (intro hz; exfalso; omega) | refine And.intro ?_ ?_ | intro _))
          rename_i K1 hK1 _
          exact h _ (scr3 hK1)
  · refine pair_no hn hR0 (-1000000001) (fun Q h => ?_) (fun Q h => ?_)
    · refine x_C false [.inr (1, 0, 20, 0), .inl s, .inl p] [] 60 hS ⟨xok_w hS, trivial, trivial, trivial⟩ ?_
      (repeat' (first | refine c_hasStep hS hb _ ?_ ?_ ?_ ?_ | refine c_hasPerson hS hb _ ?_ ?_ ?_ ?_ | with_reducible assumption | with_reducible exact rfl | with_reducible exact trivial | (with_reducible (show (_ : Int) ≤ _); omega) | (with_reducible (show (_ : Int) < _); omega) | (with_reducible (show (_ : Nat) < _); omega) | (with_reducible (show (_ : Nat) ≤ _); omega) | with_reducible exact Or.inl rfl | with_reducible exact Or.inr rfl | with_reducible exact Or.inl trivial | with_reducible exact Or.inr trivial | (intro hz; exact absurd hz (by decide)) | (intro hz; exfalso; omega) | refine And.intro ?_ ?_ | intro _))
      all_goals exact h
    · refine x_C false [.inr (13, 0, 150, 0), .inl s, .inl p] [] 60 hS ⟨xok_m hS, trivial, trivial, trivial⟩ ?_
      (repeat' (first | refine m_isStep hS _ ?_ ?_ ?_ ?_ | refine m_isPerson hS _ ?_ ?_ ?_ ?_ | with_reducible assumption | with_reducible exact rfl | with_reducible exact trivial | (with_reducible (show (_ : Int) ≤ _); omega) | (with_reducible (show (_ : Int) < _); omega) | (with_reducible (show (_ : Nat) < _); omega) | (with_reducible (show (_ : Nat) ≤ _); omega) | with_reducible exact Or.inl rfl | with_reducible exact Or.inr rfl | with_reducible exact Or.inl trivial | with_reducible exact Or.inr trivial | (intro hz; exact absurd hz (by decide)) | (intro hz; exfalso; omega) | refine And.intro ?_ ?_ | intro _))
      all_goals exact h
