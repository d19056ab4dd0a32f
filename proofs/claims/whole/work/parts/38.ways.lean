/-! ways, bears -/
theorem Rel_sw {L : Nat} {xs : Nat → Int32} {n : Nat} {I J : mj_I} {S : mj_S} {day : Int} (hn : n < 64) (h : Rel L xs n I S) (hz : swZ I day J) (hC2 : CaOK (rd I 151) (allW (rd I 151) (abB (rd I 151) z0 day 0)) J) : Rel L xs (n + 1) J S := by
  obtain ⟨hS, hO, hA, hI, hT, hW, hSh, hSl, hM, hC, hB⟩ := h
  obtain ⟨hf, h150, h26, h27⟩ := hz
  have e : ∀ {a : Nat}, ¬ swX a → J a = I a := fun q => hf _ q
  have er : ∀ {a : Nat}, ¬ swX a → rd J a = rd I a := fun q => hf.r q
  have e20 : J 20 = I 20 := e (by unfold swX; omega)
  have r151 : rd J 151 = rd I 151 := er (by unfold swX; omega)
  have r152 : rd J 152 = rd I 152 := er (by unfold swX; omega)
  refine ⟨hS, ⟨fun a ha => ?_, hO.2.1, ?_⟩, ⟨?_, ?_⟩, ⟨?_, ?_, fun q => ?_⟩, ?_, ?_, ?_, ?_, ?_, ?_, ?_⟩
  · rw [e (by unfold swX; omega)]; exact hO.1 a ha
  · rw [er (a := 157) (by unfold swX; omega), er (a := 158) (by unfold swX; omega)]; exact hO.2.2
  · rw [r151]; exact hA.1
  · rw [r151]; exact hA.2.fr hA.1.1 hf (fun a q => by unfold bc at q; unfold swX; omega)
  · rw [e20]; exact hI.1
  · rw [e20, h150 3 (by decide) (by decide) (by decide) (by decide) (by decide)]; exact hI.2.1
  · rw [e20] at q
    rw [r152]
    exact ⟨(hI.2.2 q).1, (hI.2.2 q).2.fr (hI.2.2 q).1.1 hf (fun a q => by unfold bc at q; unfold swX; omega)⟩
  · exact RT_s hT (by rw [e (by unfold swX; omega)]) (h150 8 (by decide) (by decide) (by decide) (by decide) (by decide)) (er (by unfold swX; omega)) (er (by unfold swX; omega))
  · exact RW_s hW (by rw [e20]) (h150 47 (by decide) (by decide) (by decide) (by decide) (by decide)) (er (by unfold swX; omega)) (er (by unfold swX; omega))
  · exact RSh_s hSh (fun a a0 a1 => e (by unfold swX; omega)) (er (by unfold swX; omega)) (er (by unfold swX; omega)) (er (by unfold swX; omega))
  · exact RSl_s hSl (fun a a0 a1 => e (by unfold swX; omega)) (er (by unfold swX; omega)) (er (by unfold swX; omega)) (er (by unfold swX; omega)) (er (by unfold swX; omega))
  · unfold RM at hM ⊢
    rw [er (a := 154) (by unfold swX; omega)]
    exact hM
  · intro _
    rw [r151, h26]
    exact hC2
  · unfold RBd at hB ⊢
    rw [h27, h150 4 (by decide) (by decide) (by decide) (by decide) (by decide)]
    omega
/-- calls that only read, where the reference sweeps -/
theorem pair_sw {L : Nat} {xs : Nat → Int32} {n xf mf : Nat} {as : List mj_V} (f : (Int → Int) → Int)
    (hc : ∀ I S (Q : mj_Q), Rel L xs n I S → (∀ I', fr scr I I' → Q (some (.inl (f (rd I 151)))) I' S) → mj_C 400 xf (.inr 20 :: as) I S Q)
    (hm : ∀ I S (Q : mj_Q), Rel L xs n I S → (∀ I' day, (I' = I ∨ swZ I day I' ∧ CaOK (rd I 151) (allW (rd I 151) (abB (rd I 151) z0 day 0)) I') → Q (some (.inl (f (rd I 151)))) I' S) → mj_C 400 mf (.inr 150 :: as) I S Q) : Pair L xs n xf mf as := by
  intro I S hn hR
  refine hc I S _ hR (fun J hJ => ⟨_, rfl, ?_⟩)
  have hR2 := hR.fr hJ
  refine hm J S _ hR2 (fun K day hK => ⟨?_, ?_⟩)
  · rw [hJ.r (a := 151) (by unfold scr; omega)]
  · rcases hK with hK | ⟨h1, h2⟩
    · rw [hK]; exact hR2.up hn
    · exact Rel_sw hn hR2 h1 h2
theorem scrO {I J : mj_I} (h : fr (fun a => (101 ≤ a ∧ a ≤ 107) ∨ a = 21 + 12 ∨ a = 21 + 13) I J) : fr scr I J := h.mo (fun a q => by unfold scr; omega)
theorem scrF {I J : mj_I} (h : fr (fun a => a = 103 ∨ a = 108) I J) : fr scr I J := h.mo (fun a q => by unfold scr; omega)
theorem P_ways {L : Nat} {xs : Nat → Int32} {n : Nat} (v : Int) : Pair L xs n 114 249 [.inl v] := by
  refine pair_sw (fun N => if 0 ≤ v ∧ v ≤ 999 then ((allW N (abB N z0 v 0)).length : Int) else -1000000001) (fun I S Q hR h => ?_) (fun I S Q hR h => ?_)
  · obtain ⟨hS, hO, ⟨hN, hCb⟩, hI, hTp, hWt, hSh, hSl, hMo, hCa, hBd⟩ := hR
    have hH := hN.1
    have hCH := hCb.1
    have hb : mB 21 := Or.inl rfl
    unfold InvH at hH
    unfold CbH at hCH
    refine x_C false [.inr (1, 0, 20, 0), .inl v] [] 60 hS ⟨xok_w hS, trivial, trivial⟩ ?_
    (repeat' (first | refine c_isDay _ ?_ ?_ ?_ | refine c_open hS hb hN hCb _ ?_ ?_ ?_ | refine c_countAll hS hN (by assumption) ?_ ?_ | with_reducible assumption | with_reducible exact rfl | with_reducible exact trivial | (with_reducible (show (_ : Int) ≤ _); omega) | (with_reducible (show (_ : Int) < _); omega) | (with_reducible (show (_ : Nat) < _); omega) | (with_reducible (show (_ : Nat) ≤ _); omega) | with_reducible exact Or.inl rfl | with_reducible exact Or.inr rfl | with_reducible exact Or.inl trivial | with_reducible exact Or.inr trivial | (intro hz; exact absurd hz (by decide)) | (intro hz; exfalso; omega) | refine And.intro ?_ ?_ | intro _))
    all_goals skip
  · obtain ⟨hS, hO, ⟨hN, hCb⟩, hI, hTp, hWt, hSh, hSl, hMo, hCa, hBd⟩ := hR
    have hH := hN.1
    have hCH := hCb.1
    have hb : mB 21 := Or.inl rfl
    unfold InvH at hH
    unfold CbH at hCH
    refine x_C false [.inr (13, 0, 150, 0), .inl v] [] 60 hS ⟨xok_m hS, trivial, trivial⟩ ?_
    (repeat' (first | refine m_isDay _ ?_ ?_ ?_ | refine m_sweeps hS hN hMo hCa _ ?_ ?_ | with_reducible assumption | with_reducible exact rfl | with_reducible exact trivial | (with_reducible (show (_ : Int) ≤ _); omega) | (with_reducible (show (_ : Int) < _); omega) | (with_reducible (show (_ : Nat) < _); omega) | (with_reducible (show (_ : Nat) ≤ _); omega) | with_reducible exact Or.inl rfl | with_reducible exact Or.inr rfl | with_reducible exact Or.inl trivial | with_reducible exact Or.inr trivial | (intro hz; exact absurd hz (by decide)) | (intro hz; exfalso; omega) | refine And.intro ?_ ?_ | intro _))
    all_goals skip
