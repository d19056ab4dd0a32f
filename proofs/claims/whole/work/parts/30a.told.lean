/-! told -/
def tdS (N : Int → Int) (r w : Int) : Int := if ¬ (0 ≤ r ∧ r < N 4) then -1000000001 else if w = 0 then N (88 + 4 * r + 0) else if w = 1 then N (88 + 4 * r + 1) else if w = 2 then N (88 + 4 * r + 2) else if w = 3 then N (88 + 4 * r + 3) else if w = 4 then w_wt (N (88 + 4 * r + 0)) (N (88 + 4 * r + 3)) else if w = 5 then (if keptB N (sgn N) r = true then 1 else 0) else -1000000001
theorem tdS_4 {N : Int → Int} {r : Int} (h : 0 ≤ r ∧ r < N 4) : tdS N r 4 = w_wt (N (88 + 4 * r + 0)) (N (88 + 4 * r + 3)) := by
  unfold tdS
  rw [if_neg (fun q => q h)]
  simp
theorem tdS_5 {N : Int → Int} {r : Int} (h : 0 ≤ r ∧ r < N 4) : tdS N r 5 = (if keptB N (sgn N) r = true then 1 else 0) := by
  unfold tdS
  rw [if_neg (fun q => q h)]
  simp
theorem P_told {L : Nat} {xs : Nat → Int32} {n : Nat} (v w : Int) : Pair L xs n 48 222 [.inl v, .inl w] := by
  refine pair_ro (fun N _ => tdS N v w) (fun _ _ _ => rfl) (fun I S Q hR h => ?_) (fun I S Q hR h => ?_)
  · obtain ⟨hS, hO, ⟨hN, hCb⟩, hI, hTp, hWt, hSh, hSl, hMo, hCa, hBd⟩ := hR
    have hH := hN.1
    have hCH := hCb.1
    have hb : mB 21 := Or.inl rfl
    unfold InvH at hH
    unfold CbH at hCH
    by_cases hv : 0 ≤ v ∧ v < rd I 151 4
    · have hCR := hCb.2.2.2.1 v hv.1 hv.2
      have hR2 := hN.2.2.2.1 v hv.1 hv.2
      unfold CbR at hCR
      unfold InvR at hR2
      have e0 : I (21 + 28 + v.toNat) 0 = rd I 151 (88 + 4 * v + 0) := hCR.1
      have e3 : I (21 + 28 + v.toNat) 3 = rd I 151 (88 + 4 * v + 3) := hCR.2.2.2
      refine x_C false [.inr (1, 0, 20, 0), .inl v, .inl w] [] 60 hS ⟨xok_w hS, trivial, trivial, trivial⟩ ?_
      (repeat' (first | rw [e0] | rw [e3] | refine c_hasRule hS hb _ ?_ ?_ ?_ ?_ | refine c_wt _ _ ?_ ?_ ?_ | refine c_signers hS hb hN hCb ?_ ?_ | refine ⟨(21, 0, 21 + 14, 6), ⟨rfl, ok_do hS hb⟩, ?_⟩ | with_reducible assumption | with_reducible exact rfl | with_reducible exact trivial | (with_reducible (show (_ : Int) ≤ _); omega) | (with_reducible (show (_ : Int) < _); omega) | (with_reducible (show (_ : Nat) < _); omega) | (with_reducible (show (_ : Nat) ≤ _); omega) | with_reducible exact Or.inl rfl | with_reducible exact Or.inr rfl | with_reducible exact Or.inl trivial | with_reducible exact Or.inr trivial | (intro hz; exact absurd hz (by decide)) | (intro hz; exfalso; omega) | refine And.intro ?_ ?_ | intro _))
      all_goals first
        | (refine Qe (h _ fr.refl) ?_; unfold tdS; omega)
        | (obtain rfl : w = 4 := by omega
           exact Qe (h _ fr.refl) (tdS_4 hv))
        | (rename_i J hJ hW
           have hJ2 := scr14 hb hJ
           have ek : keptB (rd I 151) (rd J (21 + 14)) v = keptB (rd I 151) (sgn (rd I 151)) v := keptB_c hN hv (fun s h0 h1 => hW s h0 (by omega))
           refine c_isKept hS hb hN (hCb.fr hN.1 hJ2 (fun a q => bc_scr hb q)) _ (by omega) hv (fun s h0 h6 => by rw [hW s h0 h6]; exact sgn_b hN s) (fun z => ?_) (fun z => ?_)
           · (repeat' (first | refine c_oneIf _ ?_ ?_ | with_reducible assumption | with_reducible exact rfl | with_reducible exact trivial | (with_reducible (show (_ : Int) ≤ _); omega) | (with_reducible (show (_ : Int) < _); omega) | (with_reducible (show (_ : Nat) < _); omega) | (with_reducible (show (_ : Nat) ≤ _); omega) | with_reducible exact Or.inl rfl | with_reducible exact Or.inr rfl | with_reducible exact Or.inl trivial | with_reducible exact Or.inr trivial | (intro hz; exact absurd hz (by decide)) | (intro hz; exfalso; omega) | refine And.intro ?_ ?_ | intro _))
             obtain rfl : w = 5 := by omega
             exact Qe (h _ hJ2) (by rw [tdS_5 hv, ← ek, if_pos z])
           · (repeat' (first | refine c_oneIf _ ?_ ?_ | with_reducible assumption | with_reducible exact rfl | with_reducible exact trivial | (with_reducible (show (_ : Int) ≤ _); omega) | (with_reducible (show (_ : Int) < _); omega) | (with_reducible (show (_ : Nat) < _); omega) | (with_reducible (show (_ : Nat) ≤ _); omega) | with_reducible exact Or.inl rfl | with_reducible exact Or.inr rfl | with_reducible exact Or.inl trivial | with_reducible exact Or.inr trivial | (intro hz; exact absurd hz (by decide)) | (intro hz; exfalso; omega) | refine And.intro ?_ ?_ | intro _))
             obtain rfl : w = 5 := by omega
             exact Qe (h _ hJ2) (by rw [tdS_5 hv, ← ek, if_neg (by rw [z]; decide)]))
    · refine x_C false [.inr (1, 0, 20, 0), .inl v, .inl w] [] 60 hS ⟨xok_w hS, trivial, trivial, trivial⟩ ?_
      (repeat' (first | refine c_hasRule hS hb _ ?_ ?_ ?_ ?_ | with_reducible assumption | with_reducible exact rfl | with_reducible exact trivial | (with_reducible (show (_ : Int) ≤ _); omega) | (with_reducible (show (_ : Int) < _); omega) | (with_reducible (show (_ : Nat) < _); omega) | (with_reducible (show (_ : Nat) ≤ _); omega) | with_reducible exact Or.inl rfl | with_reducible exact Or.inr rfl | with_reducible exact Or.inl trivial | with_reducible exact Or.inr trivial | (intro hz; exact absurd hz (by decide)) | (intro hz; exfalso; omega) | refine And.intro ?_ ?_ | intro _))
      all_goals (refine Qe (h _ fr.refl) ?_; unfold tdS; omega)
  · obtain ⟨hS, hO, ⟨hN, hCb⟩, hI, hTp, hWt, hSh, hSl, hMo, hCa, hBd⟩ := hR
    have hH := hN.1
    have hCH := hCb.1
    have hb : mB 21 := Or.inl rfl
    unfold InvH at hH
    unfold CbH at hCH
    by_cases hv : 0 ≤ v ∧ v < rd I 151 4
    · have hR2 := hN.2.2.2.1 v hv.1 hv.2
      unfold InvR at hR2
      refine x_C false [.inr (13, 0, 150, 0), .inl v, .inl w] [] 60 hS ⟨xok_m hS, trivial, trivial, trivial⟩ ?_
      (repeat' (first | refine m_isRule hS _ ?_ ?_ ?_ ?_ | refine c_in _ _ _ ?_ ?_ | refine m_rule4 hS _ _ ?_ ?_ ?_ | refine m_signedOnes hS hN ?_ ?_ | with_reducible assumption | with_reducible exact rfl | with_reducible exact trivial | (with_reducible (show (_ : Int) ≤ _); omega) | (with_reducible (show (_ : Int) < _); omega) | (with_reducible (show (_ : Nat) < _); omega) | (with_reducible (show (_ : Nat) ≤ _); omega) | with_reducible exact Or.inl rfl | with_reducible exact Or.inr rfl | with_reducible exact Or.inl trivial | with_reducible exact Or.inr trivial | (intro hz; exact absurd hz (by decide)) | (intro hz; exfalso; omega) | refine And.intro ?_ ?_ | intro _))
      all_goals first
        | (refine Qe (h _ fr.refl) ?_; unfold tdS; omega)
        | (refine Qe (h _ fr.refl) ?_; have e4 : w = 0 ∨ w = 1 ∨ w = 2 ∨ w = 3 := by omega
           rcases e4 with e | e | e | e <;> subst e <;> unfold tdS <;> omega)
        | (rename_i J hJ hW q
           have hJ2 := scr155 hJ
           have e151 : rd J 151 = rd I 151 := hJ.r (by omega)
           have ek : keptB (rd I 151) (rd J 155) v = keptB (rd I 151) (sgn (rd I 151)) v := keptB_c hN hv (fun s h0 h1 => hW s h0 (by omega))
           refine m_keptBy hS _ (by rw [e151]; exact hN) (by omega) (by rw [e151]; exact hv) (fun s h0 h6 => by rw [hW s h0 h6, e151]; exact sgn_b hN s) (fun z => ?_) (fun z => ?_)
           · rw [e151] at z
             (repeat' (first | with_reducible assumption | with_reducible exact rfl | with_reducible exact trivial | (with_reducible (show (_ : Int) ≤ _); omega) | (with_reducible (show (_ : Int) < _); omega) | (with_reducible (show (_ : Nat) < _); omega) | (with_reducible (show (_ : Nat) ≤ _); omega) | with_reducible exact Or.inl rfl | with_reducible exact Or.inr rfl | with_reducible exact Or.inl trivial | with_reducible exact Or.inr trivial | (intro hz; exact absurd hz (by decide)) | (intro hz; exfalso; omega) | refine And.intro ?_ ?_ | intro _))
             obtain rfl : w = 5 := by omega
             exact Qe (h _ hJ2) (by rw [tdS_5 hv, ← ek, if_pos z])
           · rw [e151] at z
             (repeat' (first | with_reducible assumption | with_reducible exact rfl | with_reducible exact trivial | (with_reducible (show (_ : Int) ≤ _); omega) | (with_reducible (show (_ : Int) < _); omega) | (with_reducible (show (_ : Nat) < _); omega) | (with_reducible (show (_ : Nat) ≤ _); omega) | with_reducible exact Or.inl rfl | with_reducible exact Or.inr rfl | with_reducible exact Or.inl trivial | with_reducible exact Or.inr trivial | (intro hz; exact absurd hz (by decide)) | (intro hz; exfalso; omega) | refine And.intro ?_ ?_ | intro _))
             obtain rfl : w = 5 := by omega
             exact Qe (h _ hJ2) (by rw [tdS_5 hv, ← ek, if_neg (by rw [z]; decide)]))
        | (rename_i J hJ hW q
           have hJ2 := scr155 hJ
           have e151 : rd J 151 = rd I 151 := hJ.r (by omega)
           rw [e151]
           refine m_weightBy _ _ (by omega) (by omega) ?_
           (repeat' (first | with_reducible assumption | with_reducible exact rfl | with_reducible exact trivial | (with_reducible (show (_ : Int) ≤ _); omega) | (with_reducible (show (_ : Int) < _); omega) | (with_reducible (show (_ : Nat) < _); omega) | (with_reducible (show (_ : Nat) ≤ _); omega) | with_reducible exact Or.inl rfl | with_reducible exact Or.inr rfl | with_reducible exact Or.inl trivial | with_reducible exact Or.inr trivial | (intro hz; exact absurd hz (by decide)) | (intro hz; exfalso; omega) | refine And.intro ?_ ?_ | intro _))
           obtain rfl : w = 4 := by omega
           exact Qe (h _ hJ2) (tdS_4 hv))
    · refine x_C false [.inr (13, 0, 150, 0), .inl v, .inl w] [] 60 hS ⟨xok_m hS, trivial, trivial, trivial⟩ ?_
      (repeat' (first | refine m_isRule hS _ ?_ ?_ ?_ ?_ | with_reducible assumption | with_reducible exact rfl | with_reducible exact trivial | (with_reducible (show (_ : Int) ≤ _); omega) | (with_reducible (show (_ : Int) < _); omega) | (with_reducible (show (_ : Nat) < _); omega) | (with_reducible (show (_ : Nat) ≤ _); omega) | with_reducible exact Or.inl rfl | with_reducible exact Or.inr rfl | with_reducible exact Or.inl trivial | with_reducible exact Or.inr trivial | (intro hz; exact absurd hz (by decide)) | (intro hz; exfalso; omega) | refine And.intro ?_ ?_ | intro _))
      all_goals (refine Qe (h _ fr.refl) ?_; unfold tdS; omega)
