/-! text: class and reference -/
theorem P_text {L : Nat} {xs : Nat → Int32} {n : Nat} : Pair L xs n 69 235 [] := by
  intro I S hn hR
  have hR0 := hR
  obtain ⟨hS, hO, ⟨hN, hCb⟩, hI, hTp, hWt, hSh, hSl, hMo, hCa, hBd⟩ := hR
  have hH := hN.1
  have hCH := hCb.1
  have hb : mB 21 := Or.inl rfl
  unfold InvH at hH
  unfold CbH at hCH
  have hnS := hS.1
  have e7 : I 21 7 = rd I 151 5 := hCH.2.2.2.2.2.1
  have eL : I 115 1 = I 150 8 := hTp.1
  have hL2 : 0 ≤ I 115 1 ∧ I 115 1 ≤ 96 := by rw [eL]; exact hTp.2.1
  have hTk : ∀ k, 0 ≤ k → k < I 115 1 → rd I 116 k = rd I 156 k ∧ 0 ≤ rd I 156 k ∧ rd I 156 k ≤ 255 := by rw [eL]; exact hTp.2.2
  have hB4 := hBd.2.1
  have hk2 : key1 (rd I 116) (I 115 1) ≤ 2 := (keyO_b (T := rd I 116) (k := nxK (rd I 116) (I 115 1) 0 0) (a := nxA (rd I 116) (I 115 1) 0) (b := nxB (rd I 116) (I 115 1) 0)).2.1
  /- the calls that change no row -/
  have no : ∀ (J K : mj_I), J 115 1 = 0 → fr (fun a => a = 115 ∨ a = 117) I J → fr mX J K → rd K 151 = rd J 151 → (∀ j, (j < 8 ∨ 23 ≤ j) → K 150 j = J 150 j) → K 150 8 = 0 → Rel L xs (n + 1) K S := by
    intro J K h115 hJ hK h151 h150 h8
    have e150 : ∀ j, J 150 j = I 150 j := fun j => hJ.f (by omega) j
    have hf : fr (fun a => a = 115 ∨ a = 117 ∨ mX a) I K := (hJ.mo (fun a q => (by omega : a = 115 ∨ a = 117 ∨ mX a))).tr (hK.mo (fun a q => Or.inr (Or.inr q)))
    have r151 : rd K 151 = rd I 151 := by rw [h151, hJ.r (by omega)]
    refine Rel_txt hn hR0 (hf.mo (fun a q => ?_)) (fun k _ hk => by rw [h150 k hk, e150]) h8 (by rw [hK.f (by unfold mX; omega)]; exact h115) (Or.inl ⟨by rw [h150 4 (by omega), e150], r151⟩) hS hO.2.1.2 (fun _ _ => ⟨rfl, rfl⟩) ⟨by rw [r151]; exact hN, by rw [r151]; exact hCb.fr hN.1 hf (fun a q => by unfold bc at q; unfold mX; omega)⟩ (fun q => (hI.2.2 q).2.fr (hI.2.2 q).1.1 hf (fun a q => by unfold bc at q; unfold mX; omega)) (by omega)
    unfold mX at q
    unfold txX scr
    omega
  refine c_text hS hO.1 hO.2.1.1 hL2 (fun j j0 j1 => by rw [(hTk j j0 j1).1]; exact (hTk j j0 j1).2) (by rw [e7]; omega) (by omega) (fun v J T hX => ?_)
  obtain ⟨h115, hX⟩ := hX
  have mt : ∀ (Q : mj_Q), mk_Sh T → fr (fun a => a = 21 ∨ a = 26 ∨ a = 115 ∨ a = 117 ∨ mj_nx S ≤ a) I J →
      (key1 (rd I 116) (I 115 1) < 0 → ∀ K, fr mX J K → rd K 151 = rd J 151 → (∀ j, (j < 8 ∨ 23 ≤ j) → K 150 j = J 150 j) → K 150 8 = 0 → Q (some (.inl (-100 - nxA (rd I 116) (I 115 1) 0))) K T) →
      (0 ≤ key1 (rd I 116) (I 115 1) → ∃ r s', PZ (rd I 116) (I 115 1) (key1 (rd I 116) (I 115 1)) 1960 0 0 0 (st1 (rd I 116) (I 115 1)) r s' ∧ (¬ (r = true ∧ s'.1.1 = 0) → ∀ K, fr mX J K → rd K 151 = rd J 151 → (∀ j, (j < 8 ∨ 23 ≤ j) → K 150 j = J 150 j) → K 150 8 = 0 → Q (some (.inl (-100 - s'.1.2.1))) K T) ∧ ((r = true ∧ s'.1.1 = 0) → (14 ≤ rd J 151 5 → ∀ K, fr mX J K → rd K 151 = rd J 151 → (∀ j, (j < 8 ∨ 23 ≤ j) → K 150 j = J 150 j) → K 150 8 = 0 → Q (some (.inl (-1000000003))) K T) ∧ (¬ 14 ≤ rd J 151 5 → ∀ K, fr mX J K → tR (rd J 151) (rd K 151) (key1 (rd I 116) (I 115 1)) s'.2.2 s'.2.1 → (∀ j, j ≠ 4 → (j < 8 ∨ 23 ≤ j) → K 150 j = J 150 j) → K 150 4 = J 150 4 + 1 → K 150 8 = 0 → Q (some (.inl (rd J 151 5))) K T))) → mj_C 400 235 [.inr 150] J T Q := by
    intro Q hST hJ g0 g1
    refine m_text hST (fun j j0 j1 => ?_) ?_ hL2 ?_ ?_ ?_ ?_ (by omega) g0 g1
    · rw [hJ.r (by omega), (hTk j j0 j1).1]
    · rw [hJ.f (by omega), eL]
    · rw [hJ.r (by omega)]; exact hO.2.2.1
    · rw [hJ.r (by omega)]; exact hO.2.2.2
    · rw [hJ.r (by omega)]; omega
    · rw [hJ.f (by omega)]; omega
  have wk : fr (fun a => a = 115 ∨ a = 117) I J → fr (fun a => a = 21 ∨ a = 26 ∨ a = 115 ∨ a = 117 ∨ mj_nx S ≤ a) I J := fun q => q.mo (fun a z => (by omega : a = 21 ∨ a = 26 ∨ a = 115 ∨ a = 117 ∨ mj_nx S ≤ a))
  rcases hX with ⟨k0, hv, hT, hJ⟩ | ⟨k0, r, s', p, hX⟩
  · subst hT hv
    refine ⟨_, rfl, ⟨hJ 1 (by omega), rfl, rfl⟩, mt _ hS (wk hJ) (fun _ K a1 a2 a3 a4 => ⟨rfl, no J K h115 hJ a1 a2 a3 a4⟩) (fun q => absurd k0 (by omega))⟩
  · rcases hX with ⟨hb, hv, hT, hJ⟩ | ⟨hg, hX⟩
    · subst hT hv
      exact ⟨_, rfl, ⟨hJ 1 (by omega), rfl, rfl⟩, mt _ hS (wk hJ) (fun q => absurd k0 (by omega)) (fun _ => ⟨r, s', p, fun _ K a1 a2 a3 a4 => ⟨rfl, no J K h115 hJ a1 a2 a3 a4⟩, fun q => absurd q hb⟩)⟩
    · rcases hX with ⟨h14, hv, hT, hJ⟩ | ⟨h14, hv, hsT, hJ, g21, g217, g26, gx0, gx1, gxc⟩
      · subst hT hv
        have r5 : rd J 151 5 = rd I 151 5 := by rw [hJ.r (by omega)]
        exact ⟨_, rfl, ⟨hJ 1 (by omega), rfl, rfl⟩, mt _ hS (wk hJ) (fun q => absurd k0 (by omega)) (fun _ => ⟨r, s', p, fun q => absurd hg q, fun _ => ⟨fun _ K a1 a2 a3 a4 => ⟨rfl, no J K h115 hJ a1 a2 a3 a4⟩, fun q => absurd q (by rw [r5]; omega)⟩⟩)⟩
      · have w2 := wf2 (T := rd I 116) (L := I 115 1) hL2.1 k0
        have ok := PZ_ok ⟨k0, hk2⟩ _ _ _ _ _ _ _ p w2.1
        have ok1 := ok.1.1
        have ok2 := ok.2.2 hg.1
        have ok3 : (0 : Int) ≤ s'.2.1.length ∧ (s'.2.1.length : Int) - 0 ≤ s'.1.2.1 - (st1 (rd I 116) (I 115 1)).1.2.1 := ok2.2.1
        have ok4 : (0 : Int) ≤ s'.2.2 ∧ s'.2.2 - 0 ≤ s'.1.2.1 - (st1 (rd I 116) (I 115 1)).1.2.1 := ok2.2.2.1
        have w3 := w2.2
        have hc : okC (key1 (rd I 116) (I 115 1)) s'.2.1 1 := ok2.2.2.2 0 (by omega) ⟨rfl, fun k hk => absurd hk (Nat.not_lt_zero _)⟩
        have hl0 : 1 ≤ s'.2.1.length := by
          refine Nat.pos_of_ne_zero (fun q => ?_)
          have q1 := hc.1
          rw [q] at q1
          have q2 : (0 : Int) = 1 := q1
          exact absurd q2 (by decide)
        have hST := sT_Sh hsT hS
        have r151 : rd J 151 = rd I 151 := hJ.r (by omega)
        have e150 : ∀ j, J 150 j = I 150 j := fun j => hJ.f (by omega) j
        refine ⟨_, rfl, ⟨hJ 1 (by omega), hsT.2.2.1 1 (by omega), hsT.2.2.1 150 (by omega)⟩, mt _ hST hJ (fun q => absurd k0 (by omega)) (fun _ => ⟨r, s', p, fun q => absurd hg q, fun _ => ⟨fun q => absurd q (by rw [r151]; omega), fun _ K a1 a2 a3 a4 a5 => ⟨by rw [hv, e7, r151], ?_⟩⟩⟩)⟩
        rw [r151] at a2
        have hf : fr (fun a => a = 21 ∨ a = 26 ∨ a = 115 ∨ a = 117 ∨ mj_nx S ≤ a ∨ mX a) I K := (hJ.mo (fun a q => (by rcases q with q | q | q | q | q; exact Or.inl q; exact Or.inr (Or.inl q); exact Or.inr (Or.inr (Or.inl q)); exact Or.inr (Or.inr (Or.inr (Or.inl q))); exact Or.inr (Or.inr (Or.inr (Or.inr (Or.inl q)))) : a = 21 ∨ a = 26 ∨ a = 115 ∨ a = 117 ∨ mj_nx S ≤ a ∨ mX a))).tr (a1.mo (fun a q => Or.inr (Or.inr (Or.inr (Or.inr (Or.inr q))))))
        have ek : ∀ {a : Nat}, ¬ mX a → K a = J a := fun q => a1 _ q
        have ekr : ∀ {a : Nat}, ¬ mX a → rd K a = rd J a := fun q => a1.r q
        rw [e7] at hsT h14 g217 g26
        refine Rel_txt hn hR0 (hf.mo (fun a q => ?_)) (fun k k4 hk => by rw [a3 k k4 hk, e150]) a5 (by rw [ek (by unfold mX; omega)]; exact h115) (Or.inr (by rw [a4, e150])) hST (sT_X hsT hnS hO.2.1.2) (fun a ha => ⟨?_, hsT.2.2.1 a (by omega)⟩) ⟨Inv_t hN a2 (by omega) ⟨k0, hk2⟩ hc (by omega) (by omega), ?_⟩ (fun q => ?_) ?_
        · unfold mX at q
          unfold txX scr
          omega
        · funext j
          exact hsT.2.2.2.2.2.1 a j (by omega) (by omega)
        · refine Cb_t hN hCb hnS a2 (by omega) ⟨k0, hk2⟩ (by omega) hc hsT (hf.mo (fun a q => ?_)) (fun k hk => ?_) ?_ ?_ ?_ ?_ (fun j j0 j1 => ?_)
          · unfold mX at q
            omega
          · rw [ek (by unfold mX; omega)]; exact g21 k hk
          · rw [ek (by unfold mX; omega)]; exact g217
          · rw [ekr (by unfold mX; omega)]; exact g26
          · rw [ek (by unfold mX; omega)]; exact gx0
          · rw [ek (by unfold mX; omega)]; exact gx1
          · rw [ekr (by unfold mX; omega)]; exact gxc j j0 j1
        · exact Cb_61 (hI.2.2 q).1 (hI.2.2 q).2 hnS hsT (fun a q0 q1 => hf a (by unfold mX; omega)) (fun a q0 q1 => hf a (by unfold mX; omega))
        · rw [hsT.1, hsT.2.1]
          omega
theorem mj_goal_ok : mj_goal := mj_goal_of (fun _ _ _ => P_text)
