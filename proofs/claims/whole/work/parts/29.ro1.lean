/-! calls that only read: personTold, may, cost -/
theorem mayS_M {N M : Int → Int} (hN : Inv N) (hM : ∀ p, 0 ≤ p → p < 7 → M p = 0) {p s d : Int} (hp : 0 ≤ p ∧ p < N 2) : mayS N M p s d = mayS N z0 p s d := by
  have hH := hN.1
  have hP := hN.2.1 p hp.1 hp.2
  unfold InvH at hH
  unfold InvP at hP
  have e1 : ∀ q, pap1 N M p q = pap1 N z0 p q := fun q => by unfold pap1; rw [hM p (by omega) (by omega)]
  have e2 : ∀ q, papS N M p q d ↔ papS N z0 p q d := by
    intro q
    by_cases hs : 0 ≤ N (8 + 8 * p + 6)
    · have e3 : pap1 N M (N (8 + 8 * p + 6)) q = pap1 N z0 (N (8 + 8 * p + 6)) q := by unfold pap1; rw [hM _ hs (by omega)]
      unfold papS
      rw [e1, e3]
    · unfold papS
      rw [e1]
      exact ⟨fun z => z.elim Or.inl (fun z => absurd z.1 hs), fun z => z.elim Or.inl (fun z => absurd z.1 hs)⟩
  unfold mayS
  rw [decide_eq_decide, e2]
theorem m_may0 {d : Nat} {I : mj_I} {S : mj_S} {Q : mj_Q} (hS : mk_Sh S) (p s day : Int) (hN : Inv (rd I 151)) (hM : RM I) (hd : 2 < d) (hp : 0 ≤ p ∧ p < rd I 151 2) (hs : 0 ≤ s ∧ s < rd I 151 3)
    (hT : mayS (rd I 151) z0 p s day = true → ∀ I', fr (fun a => a = 162 ∨ a = 163) I I' → Q (some (.inl 1)) I' S) (hF : mayS (rd I 151) z0 p s day = false → ∀ I', fr (fun a => a = 162 ∨ a = 163) I I' → Q (some (.inl 0)) I' S) : mj_C d 215 [.inr 150, .inl p, .inl s, .inl day] I S Q := by
  rw [← mayS_M hN hM hp] at hT hF
  exact m_mayDo hS p s day hN hd hp hs hT hF
def ptS (N : Int → Int) (v w : Int) : Int := if ¬ (0 ≤ v ∧ v < N 2) then -1000000001 else if w = 0 then N (8 + 8 * v + 0) else if w = 1 then N (8 + 8 * v + 1) else if w = 2 then N (8 + 8 * v + 2) else if w = 3 then N (8 + 8 * v + 3) else if w = 4 then (if awy N v (N 1) then 1 else 0) else if w = 5 then (if N (8 + 8 * v + 6) < 0 then -1000000005 else N (8 + 8 * v + 6)) else if w = 6 then (if N (8 + 8 * v + 6) < 0 then -1000000005 else N (8 + 8 * v + 7)) else if w = 7 then waitS N v else -1000000001
theorem scr2 {I J : mj_I} {b : Nat} (hb : mB b) (h : fr (fun a => a = b + 12 ∨ a = b + 13) I J) : fr scr I J := h.mo (fun a q => by unfold mB at hb; unfold scr; omega)
theorem scr3 {I J : mj_I} (h : fr (fun a => a = 162 ∨ a = 163) I J) : fr scr I J := h.mo (fun a q => by unfold scr; omega)
theorem P_personTold {L : Nat} {xs : Nat → Int32} {n : Nat} (v w : Int) : Pair L xs n 15 197 [.inl v, .inl w] := by
  refine pair_ro (fun N _ => ptS N v w) (fun _ _ _ => rfl) (fun I S Q hR h => ?_) (fun I S Q hR h => ?_)
  · obtain ⟨hS, hO, ⟨hN, hCb⟩, hI, hTp, hWt, hSh, hSl, hMo, hCa, hBd⟩ := hR
    have hH := hN.1
    have hCH := hCb.1
    have hb : mB 21 := Or.inl rfl
    unfold InvH at hH
    unfold CbH at hCH
    by_cases hv : 0 ≤ v ∧ v < rd I 151 2
    · have hCP := hCb.2.1 v hv.1 hv.2
      unfold CbP at hCP
      refine x_C false [.inr (1, 0, 20, 0), .inl v, .inl w] [] 60 hS ⟨xok_w hS, trivial, trivial, trivial⟩ ?_
      (repeat' (first | exact tg_P hS hb (by omega) (by omega) | refine c_hasPerson hS hb _ ?_ ?_ ?_ ?_ | refine c_isAway _ _ ?_ ?_ ?_ | refine c_oneIf _ ?_ ?_ | refine c_waitOf hS hb hN hCb _ ?_ ?_ ?_ | with_reducible assumption | with_reducible exact rfl | with_reducible exact trivial | (with_reducible (show (_ : Int) ≤ _); omega) | (with_reducible (show (_ : Int) < _); omega) | (with_reducible (show (_ : Nat) < _); omega) | (with_reducible (show (_ : Nat) ≤ _); omega) | with_reducible exact Or.inl rfl | with_reducible exact Or.inr rfl | with_reducible exact Or.inl trivial | with_reducible exact Or.inr trivial | (intro hz; exact absurd hz (by decide)) | (intro hz; exfalso; omega) | refine And.intro ?_ ?_ | intro _))
      all_goals first
        | (refine Qe (h _ fr.refl) ?_; unfold ptS; omega)
        | (refine Qe (h _ (scr2 hb (by assumption))) ?_; unfold ptS; omega)
    · refine x_C false [.inr (1, 0, 20, 0), .inl v, .inl w] [] 60 hS ⟨xok_w hS, trivial, trivial, trivial⟩ ?_
      (repeat' (first | refine c_hasPerson hS hb _ ?_ ?_ ?_ ?_ | with_reducible assumption | with_reducible exact rfl | with_reducible exact trivial | (with_reducible (show (_ : Int) ≤ _); omega) | (with_reducible (show (_ : Int) < _); omega) | (with_reducible (show (_ : Nat) < _); omega) | (with_reducible (show (_ : Nat) ≤ _); omega) | with_reducible exact Or.inl rfl | with_reducible exact Or.inr rfl | with_reducible exact Or.inl trivial | with_reducible exact Or.inr trivial | (intro hz; exact absurd hz (by decide)) | (intro hz; exfalso; omega) | refine And.intro ?_ ?_ | intro _))
      all_goals (refine Qe (h _ fr.refl) ?_; unfold ptS; omega)
  · obtain ⟨hS, hO, ⟨hN, hCb⟩, hI, hTp, hWt, hSh, hSl, hMo, hCa, hBd⟩ := hR
    have hH := hN.1
    have hCH := hCb.1
    have hb : mB 21 := Or.inl rfl
    unfold InvH at hH
    unfold CbH at hCH
    by_cases hv : 0 ≤ v ∧ v < rd I 151 2
    · refine x_C false [.inr (13, 0, 150, 0), .inl v, .inl w] [] 60 hS ⟨xok_m hS, trivial, trivial, trivial⟩ ?_
      (repeat' (first | refine m_isPerson hS _ ?_ ?_ ?_ ?_ | refine c_in _ _ _ ?_ ?_ | refine m_isAway hS _ _ ?_ ?_ ?_ ?_ | refine m_of8 hS _ _ ?_ ?_ ?_ | refine m_orNone _ ?_ | refine m_waitOf hS _ hN ?_ ?_ ?_ | with_reducible assumption | with_reducible exact rfl | with_reducible exact trivial | (with_reducible (show (_ : Int) ≤ _); omega) | (with_reducible (show (_ : Int) < _); omega) | (with_reducible (show (_ : Nat) < _); omega) | (with_reducible (show (_ : Nat) ≤ _); omega) | with_reducible exact Or.inl rfl | with_reducible exact Or.inr rfl | with_reducible exact Or.inl trivial | with_reducible exact Or.inr trivial | (intro hz; exact absurd hz (by decide)) | (intro hz; exfalso; omega) | refine And.intro ?_ ?_ | intro _))
      all_goals first
        | (refine Qe (h _ fr.refl) ?_; unfold ptS; omega)
        | (refine Qe (h _ (scr3 (by assumption))) ?_; unfold ptS; omega)
        | (refine Qe (h _ fr.refl) ?_; have e4 : w = 0 ∨ w = 1 ∨ w = 2 ∨ w = 3 := by omega
           rcases e4 with e | e | e | e <;> subst e <;> unfold ptS <;> omega)
    · refine x_C false [.inr (13, 0, 150, 0), .inl v, .inl w] [] 60 hS ⟨xok_m hS, trivial, trivial, trivial⟩ ?_
      (repeat' (first | refine m_isPerson hS _ ?_ ?_ ?_ ?_ | with_reducible assumption | with_reducible exact rfl | with_reducible exact trivial | (with_reducible (show (_ : Int) ≤ _); omega) | (with_reducible (show (_ : Int) < _); omega) | (with_reducible (show (_ : Nat) < _); omega) | (with_reducible (show (_ : Nat) ≤ _); omega) | with_reducible exact Or.inl rfl | with_reducible exact Or.inr rfl | with_reducible exact Or.inl trivial | with_reducible exact Or.inr trivial | (intro hz; exact absurd hz (by decide)) | (intro hz; exfalso; omega) | refine And.intro ?_ ?_ | intro _))
      all_goals (refine Qe (h _ fr.refl) ?_; unfold ptS; omega)
def maS (N : Int → Int) (v w t : Int) : Int := if ¬ ((0 ≤ v ∧ v < N 2) ∧ (0 ≤ w ∧ w < N 3) ∧ 0 ≤ t ∧ t ≤ 999) then -1000000001 else if mayS N z0 v w t = true then 1 else 0
theorem P_may {L : Nat} {xs : Nat → Int32} {n : Nat} (v w t : Int) : Pair L xs n 40 218 [.inl v, .inl w, .inl t] := by
  refine pair_ro (fun N _ => maS N v w t) (fun _ _ _ => rfl) (fun I S Q hR h => ?_) (fun I S Q hR h => ?_)
  · obtain ⟨hS, hO, ⟨hN, hCb⟩, hI, hTp, hWt, hSh, hSl, hMo, hCa, hBd⟩ := hR
    have hH := hN.1
    have hCH := hCb.1
    have hb : mB 21 := Or.inl rfl
    unfold InvH at hH
    unfold CbH at hCH
    refine x_C false [.inr (1, 0, 20, 0), .inl v, .inl w, .inl t] [] 60 hS ⟨xok_w hS, trivial, trivial, trivial, trivial⟩ ?_
    (repeat' (first | refine c_hasPerson hS hb _ ?_ ?_ ?_ ?_ | refine c_hasStep hS hb _ ?_ ?_ ?_ ?_ | refine c_isDay _ ?_ ?_ ?_ | refine c_oneIf _ ?_ ?_ | refine c_mayDo hS hb hN hCb _ _ _ ?_ ?_ ?_ ?_ ?_ | with_reducible assumption | with_reducible exact rfl | with_reducible exact trivial | (with_reducible (show (_ : Int) ≤ _); omega) | (with_reducible (show (_ : Int) < _); omega) | (with_reducible (show (_ : Nat) < _); omega) | (with_reducible (show (_ : Nat) ≤ _); omega) | with_reducible exact Or.inl rfl | with_reducible exact Or.inr rfl | with_reducible exact Or.inl trivial | with_reducible exact Or.inr trivial | (intro hz; exact absurd hz (by decide)) | (intro hz; exfalso; omega) | refine And.intro ?_ ?_ | intro _))
    all_goals first
      | (refine Qe (h _ fr.refl) ?_; unfold maS; rw [if_pos (by omega)])
      | (refine Qe (h _ (scr2 hb (by assumption))) ?_; unfold maS; rw [if_neg (by omega), if_pos (by assumption)])
      | (refine Qe (h _ (scr2 hb (by assumption))) ?_; unfold maS; rw [if_neg (by omega), if_neg (by simp_all)])
  · obtain ⟨hS, hO, ⟨hN, hCb⟩, hI, hTp, hWt, hSh, hSl, hMo, hCa, hBd⟩ := hR
    have hH := hN.1
    have hCH := hCb.1
    have hb : mB 21 := Or.inl rfl
    unfold InvH at hH
    unfold CbH at hCH
    refine x_C false [.inr (13, 0, 150, 0), .inl v, .inl w, .inl t] [] 60 hS ⟨xok_m hS, trivial, trivial, trivial, trivial⟩ ?_
    (repeat' (first | refine m_isPerson hS _ ?_ ?_ ?_ ?_ | refine m_isStep hS _ ?_ ?_ ?_ ?_ | refine m_isDay _ ?_ ?_ ?_ | refine m_may0 hS _ _ _ hN hMo ?_ ?_ ?_ ?_ ?_ | with_reducible assumption | with_reducible exact rfl | with_reducible exact trivial | (with_reducible (show (_ : Int) ≤ _); omega) | (with_reducible (show (_ : Int) < _); omega) | (with_reducible (show (_ : Nat) < _); omega) | (with_reducible (show (_ : Nat) ≤ _); omega) | with_reducible exact Or.inl rfl | with_reducible exact Or.inr rfl | with_reducible exact Or.inl trivial | with_reducible exact Or.inr trivial | (intro hz; exact absurd hz (by decide)) | (intro hz; exfalso; omega) | refine And.intro ?_ ?_ | intro _))
    all_goals first
      | (refine Qe (h _ fr.refl) ?_; unfold maS; rw [if_pos (by omega)])
      | (refine Qe (h _ (scr3 (by assumption))) ?_; unfold maS; rw [if_neg (by omega), if_pos (by assumption)])
      | (refine Qe (h _ (scr3 (by assumption))) ?_; unfold maS; rw [if_neg (by omega), if_neg (by simp_all)])
def coS (N : Int → Int) (v w : Int) : Int := if ¬ ((0 ≤ v ∧ v < N 2) ∧ (0 ≤ w ∧ w < N 3)) then -1000000001 else costS N v w
theorem P_cost {L : Nat} {xs : Nat → Int32} {n : Nat} (v w : Int) : Pair L xs n 41 219 [.inl v, .inl w] := by
  refine pair_ro (fun N _ => coS N v w) (fun _ _ _ => rfl) (fun I S Q hR h => ?_) (fun I S Q hR h => ?_)
  · obtain ⟨hS, hO, ⟨hN, hCb⟩, hI, hTp, hWt, hSh, hSl, hMo, hCa, hBd⟩ := hR
    have hH := hN.1
    have hCH := hCb.1
    have hb : mB 21 := Or.inl rfl
    unfold InvH at hH
    unfold CbH at hCH
    refine x_C false [.inr (1, 0, 20, 0), .inl v, .inl w] [] 60 hS ⟨xok_w hS, trivial, trivial, trivial⟩ ?_
    (repeat' (first | refine c_hasPerson hS hb _ ?_ ?_ ?_ ?_ | refine c_hasStep hS hb _ ?_ ?_ ?_ ?_ | refine c_costOf hS hb hN hCb _ _ ?_ ?_ ?_ ?_ | with_reducible assumption | with_reducible exact rfl | with_reducible exact trivial | (with_reducible (show (_ : Int) ≤ _); omega) | (with_reducible (show (_ : Int) < _); omega) | (with_reducible (show (_ : Nat) < _); omega) | (with_reducible (show (_ : Nat) ≤ _); omega) | with_reducible exact Or.inl rfl | with_reducible exact Or.inr rfl | with_reducible exact Or.inl trivial | with_reducible exact Or.inr trivial | (intro hz; exact absurd hz (by decide)) | (intro hz; exfalso; omega) | refine And.intro ?_ ?_ | intro _))
    all_goals first
      | (refine Qe (h _ fr.refl) ?_; unfold coS; rw [if_pos (by omega)])
      | (refine Qe (h _ (scr2 hb (by assumption))) ?_; unfold coS; rw [if_neg (by omega)])
  · obtain ⟨hS, hO, ⟨hN, hCb⟩, hI, hTp, hWt, hSh, hSl, hMo, hCa, hBd⟩ := hR
    have hH := hN.1
    have hCH := hCb.1
    have hb : mB 21 := Or.inl rfl
    unfold InvH at hH
    unfold CbH at hCH
    refine x_C false [.inr (13, 0, 150, 0), .inl v, .inl w] [] 60 hS ⟨xok_m hS, trivial, trivial, trivial⟩ ?_
    (repeat' (first | refine m_isPerson hS _ ?_ ?_ ?_ ?_ | refine m_isStep hS _ ?_ ?_ ?_ ?_ | refine m_costOf hS _ _ hN ?_ ?_ ?_ ?_ | with_reducible assumption | with_reducible exact rfl | with_reducible exact trivial | (with_reducible (show (_ : Int) ≤ _); omega) | (with_reducible (show (_ : Int) < _); omega) | (with_reducible (show (_ : Nat) < _); omega) | (with_reducible (show (_ : Nat) ≤ _); omega) | with_reducible exact Or.inl rfl | with_reducible exact Or.inr rfl | with_reducible exact Or.inl trivial | with_reducible exact Or.inr trivial | (intro hz; exact absurd hz (by decide)) | (intro hz; exfalso; omega) | refine And.intro ?_ ?_ | intro _))
    all_goals first
      | (refine Qe (h _ fr.refl) ?_; unfold coS; rw [if_pos (by omega)])
      | (refine Qe (h _ (scr3 (by assumption))) ?_; unfold coS; rw [if_neg (by omega)])
