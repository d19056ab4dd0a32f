/-! calls that only read: audit, stepTold -/
def auN (N : Int → Int) (i : Int) : Nat → Nat → Int → Int
  | 0, _, f => if i < 0 then f else -1000000005
  | m + 1, k, f => if mayS N z0 (N (148 + 3 * (k : Int) + 2)) (N (148 + 3 * (k : Int) + 1)) (N 1) = true then auN N i m (k + 1) f else if f = i then k else auN N i m (k + 1) (f + 1)
def auS (N : Int → Int) (i : Int) : Int := if i < -1 then -1000000001 else auN N i (N 7).toNat 0 0
theorem P_audit {L : Nat} {xs : Nat → Int32} {n : Nat} (i : Int) : Pair L xs n 164 279 [.inl i] := by
  refine pair_ro (fun N _ => auS N i) (fun _ _ _ => rfl) (fun I S Q hR h => ?_) (fun I S Q hR h => ?_)
  · obtain ⟨hS, hO, ⟨hN, hCb⟩, hI, hTp, hWt, hSh, hSl, hMo, hCa, hBd⟩ := hR
    have hH := hN.1
    have hCH := hCb.1
    have hb : mB 21 := Or.inl rfl
    unfold InvH at hH
    unfold CbH at hCH
    unfold auS at h
    generalize hT0 : auN (rd I 151) i (rd I 151 7).toNat 0 0 = T at h
    have loop : i ≥ -1 → ∀ m k : Nat, (k + m : Int) = rd I 151 7 → ∀ (f kk : Int) (J : mj_I), kk = k → (0 ≤ f ∧ f ≤ k) → fr scr I J → T = auN (rd I 151) i m k f →
        xW 400 164 9 [some (.inr (1, 0, 20, 0)), some (.inl i), some (.inl f), some (.inl kk)] [] J S Q := by
      intro hi m
      rw [if_neg (by omega)] at h
      induction m with
      | zero =>
        intro k hk f kk J h1 hf h2 h3
        have e29 : J (21 + 8) 3 = I (21 + 8) 3 := h2.f (by unfold scr; omega) 3
        unfold auN at h3
        refine x_hd false [9] 40 ?_
        (repeat' (first | with_reducible assumption | with_reducible exact rfl | with_reducible exact trivial | (with_reducible (show (_ : Int) ≤ _); omega) | (with_reducible (show (_ : Int) < _); omega) | (with_reducible (show (_ : Nat) < _); omega) | (with_reducible (show (_ : Nat) ≤ _); omega) | with_reducible exact Or.inl rfl | with_reducible exact Or.inr rfl | with_reducible exact Or.inl trivial | with_reducible exact Or.inr trivial | (intro hz; exact absurd hz (by decide)) | (intro hz; exfalso; omega) | refine And.intro ?_ ?_ | intro _))
        · refine Qe (h J h2) ?_
          rw [h3, if_neg (by omega)]
        · refine Qe (h J h2) ?_
          rw [h3, if_pos (by omega)]
      | succ m ih =>
        intro k hk f kk J h1 hf h2 h3
        subst h1
        have e29 : J (21 + 8) 3 = I (21 + 8) 3 := h2.f (by unfold scr; omega) 3
        have e13 : J 21 13 = rd I 151 1 := by rw [h2.f (by unfold scr; omega)]; exact hCH.2.1
        have hL := hN.2.2.2.2.2.1 k (by omega) (by omega)
        have hCL := hCb.2.2.2.2.2.1 k (by omega) (by omega)
        unfold InvL at hL
        unfold CbL at hCL
        have e31 : rd J (21 + 10) k = rd I 151 (148 + 3 * (k : Int) + 1) := by rw [h2.r (by unfold scr; omega)]; exact hCL.2.1
        have e32 : rd J (21 + 11) k = rd I 151 (148 + 3 * (k : Int) + 2) := by rw [h2.r (by unfold scr; omega)]; exact hCL.2.2
        have hCJ := hCb.fr hN.1 h2 (fun a q => bc_scr hb q)
        unfold auN at h3
        refine x_hd false [9] 40 ?_
        (repeat' (first | rw [e31] | rw [e32] | rw [e13] | refine c_mayDo hS hb hN hCJ _ _ _ ?_ ?_ ?_ ?_ ?_ | with_reducible assumption | with_reducible exact rfl | with_reducible exact trivial | (with_reducible (show (_ : Int) ≤ _); omega) | (with_reducible (show (_ : Int) < _); omega) | (with_reducible (show (_ : Nat) < _); omega) | (with_reducible (show (_ : Nat) ≤ _); omega) | with_reducible exact Or.inl rfl | with_reducible exact Or.inr rfl | with_reducible exact Or.inl trivial | with_reducible exact Or.inr trivial | (intro hz; exact absurd hz (by decide)) | (intro hz; exfalso; omega) | refine And.intro ?_ ?_ | intro _))
        · rename_i z K hK _
          rw [if_pos z] at h3
          exact ih (k + 1) (by omega) _ _ _ (by omega) (by omega) (h2.tr (scr2 hb hK)) h3
        · rename_i z K hK _ q
          rw [if_neg (by rw [z]; decide), if_neg q] at h3
          exact ih (k + 1) (by omega) _ _ _ (by omega) (by omega) (h2.tr (scr2 hb hK)) h3
        · rename_i z K hK _ q
          rw [if_neg (by rw [z]; decide), if_pos q] at h3
          refine Qe (h K (h2.tr (scr2 hb hK))) ?_
          rw [h3]
    refine x_C false [.inr (1, 0, 20, 0), .inl i] [9] 40 hS ⟨xok_w hS, trivial, trivial⟩ ?_
    (repeat' (first | with_reducible assumption | with_reducible exact rfl | with_reducible exact trivial | (with_reducible (show (_ : Int) ≤ _); omega) | (with_reducible (show (_ : Int) < _); omega) | (with_reducible (show (_ : Nat) < _); omega) | (with_reducible (show (_ : Nat) ≤ _); omega) | with_reducible exact Or.inl rfl | with_reducible exact Or.inr rfl | with_reducible exact Or.inl trivial | with_reducible exact Or.inr trivial | (intro hz; exact absurd hz (by decide)) | (intro hz; exfalso; omega) | refine And.intro ?_ ?_ | intro _))
    · exact loop (by omega) (rd I 151 7).toNat 0 (by omega) _ _ _ rfl (by omega) fr.refl hT0.symm
    · rw [if_pos (by omega)] at h
      exact h _ fr.refl
  · obtain ⟨hS, hO, ⟨hN, hCb⟩, hI, hTp, hWt, hSh, hSl, hMo, hCa, hBd⟩ := hR
    have hH := hN.1
    have hCH := hCb.1
    have hb : mB 21 := Or.inl rfl
    unfold InvH at hH
    unfold CbH at hCH
    unfold auS at h
    generalize hT0 : auN (rd I 151) i (rd I 151 7).toNat 0 0 = T at h
    have loop : i ≥ -1 → ∀ m k : Nat, (k + m : Int) = rd I 151 7 → ∀ (f kk : Int) (J : mj_I), kk = k → (0 ≤ f ∧ f ≤ k) → fr scr I J → T = auN (rd I 151) i m k f →
        xW 400 279 9 [some (.inr (13, 0, 150, 0)), some (.inl i), some (.inl f), some (.inl kk)] [] J S Q := by
      intro hi m
      rw [if_neg (by omega)] at h
      induction m with
      | zero =>
        intro k hk f kk J h1 hf h2 h3
        have e151 : rd J 151 = rd I 151 := h2.r (by unfold scr; omega)
        unfold auN at h3
        refine x_hd false [9] 40 ?_
        (repeat' (first | rw [e151] | with_reducible assumption | with_reducible exact rfl | with_reducible exact trivial | (with_reducible (show (_ : Int) ≤ _); omega) | (with_reducible (show (_ : Int) < _); omega) | (with_reducible (show (_ : Nat) < _); omega) | (with_reducible (show (_ : Nat) ≤ _); omega) | with_reducible exact Or.inl rfl | with_reducible exact Or.inr rfl | with_reducible exact Or.inl trivial | with_reducible exact Or.inr trivial | (intro hz; exact absurd hz (by decide)) | (intro hz; exfalso; omega) | refine And.intro ?_ ?_ | intro _))
        · refine Qe (h J h2) ?_
          rw [h3, if_neg (by omega)]
        · refine Qe (h J h2) ?_
          rw [h3, if_pos (by omega)]
      | succ m ih =>
        intro k hk f kk J h1 hf h2 h3
        subst h1
        have e151 : rd J 151 = rd I 151 := h2.r (by unfold scr; omega)
        have hL := hN.2.2.2.2.2.1 k (by omega) (by omega)
        unfold InvL at hL
        have hMJ : RM J := by unfold RM; rw [h2.r (a := 154) (by unfold scr; omega)]; exact hMo
        unfold auN at h3
        refine x_hd false [9] 40 ?_
        (repeat' (first | rw [e151] | refine m_may0 hS _ _ _ (by rw [e151]; exact hN) hMJ ?_ ?_ ?_ ?_ ?_ | with_reducible assumption | with_reducible exact rfl | with_reducible exact trivial | (with_reducible (show (_ : Int) ≤ _); omega) | (with_reducible (show (_ : Int) < _); omega) | (with_reducible (show (_ : Nat) < _); omega) | (with_reducible (show (_ : Nat) ≤ _); omega) | with_reducible exact Or.inl rfl | with_reducible exact Or.inr rfl | with_reducible exact Or.inl trivial | with_reducible exact Or.inr trivial | (intro hz; exact absurd hz (by decide)) | (intro hz; exfalso; omega) | refine And.intro ?_ ?_ | intro _))
        · rename_i z K hK _
          rw [if_pos z] at h3
          exact ih (k + 1) (by omega) _ _ _ (by omega) (by omega) (h2.tr (scr3 hK)) h3
        · rename_i z K hK _ q
          rw [if_neg (by rw [z]; decide), if_neg q] at h3
          exact ih (k + 1) (by omega) _ _ _ (by omega) (by omega) (h2.tr (scr3 hK)) h3
        · rename_i z K hK _ q
          rw [if_neg (by rw [z]; decide), if_pos q] at h3
          refine Qe (h K (h2.tr (scr3 hK))) ?_
          rw [h3]
    refine x_C false [.inr (13, 0, 150, 0), .inl i] [9] 40 hS ⟨xok_m hS, trivial, trivial⟩ ?_
    (repeat' (first | with_reducible assumption | with_reducible exact rfl | with_reducible exact trivial | (with_reducible (show (_ : Int) ≤ _); omega) | (with_reducible (show (_ : Int) < _); omega) | (with_reducible (show (_ : Nat) < _); omega) | (with_reducible (show (_ : Nat) ≤ _); omega) | with_reducible exact Or.inl rfl | with_reducible exact Or.inr rfl | with_reducible exact Or.inl trivial | with_reducible exact Or.inr trivial | (intro hz; exact absurd hz (by decide)) | (intro hz; exfalso; omega) | refine And.intro ?_ ?_ | intro _))
    · exact loop (by omega) (rd I 151 7).toNat 0 (by omega) _ _ _ rfl (by omega) fr.refl hT0.symm
    · rw [if_pos (by omega)] at h
      exact h _ fr.refl
