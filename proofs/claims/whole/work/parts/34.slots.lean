/-! ask, item, rest, tell, trim -/
def oth (a : Nat) : Prop := a = 20 ∨ a = 115 ∨ a = 116 ∨ a = 120 ∨ (122 ≤ a ∧ a ≤ 149) ∨ a = 150 ∨ a = 156 ∨ (172 ≤ a ∧ a ≤ 178) ∨ a = 180 ∨ scr a
theorem Rel_oth {L : Nat} {xs : Nat → Int32} {n : Nat} {I J : mj_I} {S : mj_S} (hn : n < 64) (h : Rel L xs n I S) (hf : fr oth I J) (h20 : ∀ k, k ≠ 9 → J 20 k = I 20 k) (h150 : ∀ k, k ≠ 8 → k ≠ 47 → J 150 k = I 150 k) (hT2 : RT J) (hW2 : RW J) (hSh2 : RSh J) (hSl2 : RSl J) : Rel L xs (n + 1) J S := by
  obtain ⟨hS, hO, hA, hI, hT, hW, hSh, hSl, hM, hC, hB⟩ := h
  have e : ∀ {a : Nat}, ¬ oth a → J a = I a := fun q => hf _ q
  have er : ∀ {a : Nat}, ¬ oth a → rd J a = rd I a := fun q => hf.r q
  have r151 : rd J 151 = rd I 151 := er (by unfold oth scr; omega)
  have r152 : rd J 152 = rd I 152 := er (by unfold oth scr; omega)
  refine ⟨hS, ⟨fun a ha => ?_, hO.2.1, ?_⟩, ⟨?_, ?_⟩, ⟨?_, ?_, fun q => ?_⟩, hT2, hW2, hSh2, hSl2, ?_, ?_, ?_⟩
  · rw [e (by unfold oth scr; omega)]; exact hO.1 a ha
  · rw [er (a := 157) (by unfold oth scr; omega), er (a := 158) (by unfold oth scr; omega)]; exact hO.2.2
  · rw [r151]; exact hA.1
  · rw [r151]; exact hA.2.fr hA.1.1 hf (fun a q => by unfold bc at q; unfold oth scr; omega)
  · rw [h20 2 (by decide)]; exact hI.1
  · rw [h20 2 (by decide), h150 3 (by decide) (by decide)]; exact hI.2.1
  · rw [h20 2 (by decide)] at q
    rw [r152]
    exact ⟨(hI.2.2 q).1, (hI.2.2 q).2.fr (hI.2.2 q).1.1 hf (fun a q => by unfold bc at q; unfold oth scr; omega)⟩
  · unfold RM at hM ⊢
    rw [er (a := 154) (by unfold oth scr; omega)]
    exact hM
  · intro q
    rw [h150 27 (by decide) (by decide), h150 4 (by decide) (by decide)] at q
    rw [r151, h150 26 (by decide) (by decide)]
    exact (hC q).fr (h150 28 (by decide) (by decide)) (h150 31 (by decide) (by decide)) (h150 32 (by decide) (by decide)) (er (by unfold oth scr; omega)) (er (by unfold oth scr; omega)) (er (by unfold oth scr; omega)) (er (by unfold oth scr; omega))
  · unfold RBd at hB ⊢
    rw [h150 27 (by decide) (by decide), h150 4 (by decide) (by decide)]
    omega
theorem m_isSheet {d : Nat} {I : mj_I} {S : mj_S} {Q : mj_Q} (v : Int) (hd : 0 < d) (hT : 0 ≤ v ∧ v ≤ 3 → Q (some (.inl 1)) I S) (hF : ¬ (0 ≤ v ∧ v ≤ 3) → Q (some (.inl 0)) I S) : mj_C d 283 [.inl v] I S Q := by
  refine mj_C_of 20 ?_
  refine ⟨hd, c_in _ _ _ (fun h => ⟨Or.inr rfl, hT h⟩) (fun h => ⟨Or.inl rfl, hF h⟩)⟩
theorem m_isSlot {d : Nat} {I : mj_I} {S : mj_S} {Q : mj_Q} (v : Int) (hd : 0 < d) (hT : 0 ≤ v ∧ v ≤ 4 → Q (some (.inl 1)) I S) (hF : ¬ (0 ≤ v ∧ v ≤ 4) → Q (some (.inl 0)) I S) : mj_C d 288 [.inl v] I S Q := by
  refine mj_C_of 20 ?_
  refine ⟨hd, c_in _ _ _ (fun h => ⟨Or.inr rfl, hT h⟩) (fun h => ⟨Or.inl rfl, hF h⟩)⟩
def akS (I : mj_I) (k o : Int) : Int := if ¬ ((0 ≤ k ∧ k ≤ 4) ∧ 0 ≤ o ∧ o ≤ 5) then -1000000001 else if rd I 175 k = 0 then -1000000011 else if rd I 175 k = 1 ∧ unP (rd I 176 k) o then w_wt (rd I 176 k) (rd I 177 k) else -1000000012
theorem akS_c {I J : mj_I} (h : fr scr I J) (k o : Int) : akS I k o = akS J k o := by
  unfold akS
  rw [h.r (a := 175) (by unfold scr; omega), h.r (a := 176) (by unfold scr; omega), h.r (a := 177) (by unfold scr; omega)]
theorem P_ask {L : Nat} {xs : Nat → Int32} {n : Nat} (k o : Int) : Pair L xs n 180 289 [.inl k, .inl o] := by
  refine pair_ro (fun _ I => akS I k o) (fun _ _ h => akS_c h k o) (fun I S Q hR h => ?_) (fun I S Q hR h => ?_)
  · obtain ⟨hS, hO, ⟨hN, hCb⟩, hI, hTp, hWt, hSh, hSl, hMo, hCa, hBd⟩ := hR
    have hH := hN.1
    have hCH := hCb.1
    have hb : mB 21 := Or.inl rfl
    unfold InvH at hH
    unfold CbH at hCH
    by_cases hv : (0 ≤ k ∧ k ≤ 4) ∧ 0 ≤ o ∧ o ≤ 5
    · obtain ⟨s1, s2, s3, s4, s5⟩ := hSl k (by omega) (by omega)
      refine x_C false [.inr (1, 0, 20, 0), .inl k, .inl o] [] 60 hS ⟨xok_w hS, trivial, trivial, trivial⟩ ?_
      by_cases h1 : rd I 175 k = 1
      · obtain ⟨t1, t2, t3, t4⟩ := s3 h1
        (repeat' (first | rw [t1] | rw [t2] | refine c_isSlot _ ?_ ?_ ?_ | refine c_isKind _ ?_ ?_ ?_ | refine c_isUnder hS hO _ _ ?_ ?_ ?_ ?_ ?_ | refine c_wt _ _ ?_ ?_ ?_ | with_reducible assumption | with_reducible exact rfl | with_reducible exact trivial | (with_reducible (show (_ : Int) ≤ _); omega) | (with_reducible (show (_ : Int) < _); omega) | (with_reducible (show (_ : Nat) < _); omega) | (with_reducible (show (_ : Nat) ≤ _); omega) | with_reducible exact Or.inl rfl | with_reducible exact Or.inr rfl | with_reducible exact Or.inl trivial | with_reducible exact Or.inr trivial | (intro hz; exact absurd hz (by decide)) | (intro hz; exfalso; omega) | refine And.intro ?_ ?_ | intro _))
        all_goals (refine Qe (h _ fr.refl) ?_; unfold akS)
        all_goals first
          | rw [if_neg (by omega), if_neg (by omega), if_pos ⟨h1, by assumption⟩]
          | (rw [if_neg (by omega), if_neg (by omega), if_neg (fun q => ?_)]; exact absurd q.2 (by assumption))
      · (repeat' (first | refine c_isSlot _ ?_ ?_ ?_ | refine c_isKind _ ?_ ?_ ?_ | with_reducible assumption | with_reducible exact rfl | with_reducible exact trivial | (with_reducible (show (_ : Int) ≤ _); omega) | (with_reducible (show (_ : Int) < _); omega) | (with_reducible (show (_ : Nat) < _); omega) | (with_reducible (show (_ : Nat) ≤ _); omega) | with_reducible exact Or.inl rfl | with_reducible exact Or.inr rfl | with_reducible exact Or.inl trivial | with_reducible exact Or.inr trivial | (intro hz; exact absurd hz (by decide)) | (intro hz; exfalso; omega) | refine And.intro ?_ ?_ | intro _))
        all_goals (refine Qe (h _ fr.refl) ?_; unfold akS)
        all_goals first
          | rw [if_neg (by omega), if_pos (by omega)]
          | rw [if_neg (by omega), if_neg (by omega), if_neg (fun q => h1 q.1)]
    · refine x_C false [.inr (1, 0, 20, 0), .inl k, .inl o] [] 60 hS ⟨xok_w hS, trivial, trivial, trivial⟩ ?_
      (repeat' (first | refine c_isSlot _ ?_ ?_ ?_ | refine c_isKind _ ?_ ?_ ?_ | with_reducible assumption | with_reducible exact rfl | with_reducible exact trivial | (with_reducible (show (_ : Int) ≤ _); omega) | (with_reducible (show (_ : Int) < _); omega) | (with_reducible (show (_ : Nat) < _); omega) | (with_reducible (show (_ : Nat) ≤ _); omega) | with_reducible exact Or.inl rfl | with_reducible exact Or.inr rfl | with_reducible exact Or.inl trivial | with_reducible exact Or.inr trivial | (intro hz; exact absurd hz (by decide)) | (intro hz; exfalso; omega) | refine And.intro ?_ ?_ | intro _))
      all_goals (refine Qe (h _ fr.refl) ?_; unfold akS; rw [if_pos (by omega)])
  · obtain ⟨hS, hO, ⟨hN, hCb⟩, hI, hTp, hWt, hSh, hSl, hMo, hCa, hBd⟩ := hR
    have hH := hN.1
    have hCH := hCb.1
    have hb : mB 21 := Or.inl rfl
    unfold InvH at hH
    unfold CbH at hCH
    by_cases hv : (0 ≤ k ∧ k ≤ 4) ∧ 0 ≤ o ∧ o ≤ 5
    · obtain ⟨s1, s2, s3, s4, s5⟩ := hSl k (by omega) (by omega)
      refine x_C false [.inr (13, 0, 150, 0), .inl k, .inl o] [] 60 hS ⟨xok_m hS, trivial, trivial, trivial⟩ ?_
      by_cases h1 : rd I 175 k = 1
      · obtain ⟨t1, t2, t3, t4⟩ := s3 h1
        (repeat' (first | refine m_isSlot _ ?_ ?_ ?_ | refine c_in _ _ _ ?_ ?_ | refine m_isUnder _ _ ?_ ?_ | refine m_weightBy _ _ ?_ ?_ ?_ | with_reducible assumption | with_reducible exact rfl | with_reducible exact trivial | (with_reducible (show (_ : Int) ≤ _); omega) | (with_reducible (show (_ : Int) < _); omega) | (with_reducible (show (_ : Nat) < _); omega) | (with_reducible (show (_ : Nat) ≤ _); omega) | with_reducible exact Or.inl rfl | with_reducible exact Or.inr rfl | with_reducible exact Or.inl trivial | with_reducible exact Or.inr trivial | (intro hz; exact absurd hz (by decide)) | (intro hz; exfalso; omega) | refine And.intro ?_ ?_ | intro _))
        all_goals (refine Qe (h _ fr.refl) ?_; unfold akS)
        all_goals first
          | rw [if_neg (by omega), if_neg (by omega), if_pos ⟨h1, by assumption⟩]
          | (rw [if_neg (by omega), if_neg (by omega), if_neg (fun q => ?_)]; exact absurd q.2 (by assumption))
      · (repeat' (first | refine m_isSlot _ ?_ ?_ ?_ | refine c_in _ _ _ ?_ ?_ | with_reducible assumption | with_reducible exact rfl | with_reducible exact trivial | (with_reducible (show (_ : Int) ≤ _); omega) | (with_reducible (show (_ : Int) < _); omega) | (with_reducible (show (_ : Nat) < _); omega) | (with_reducible (show (_ : Nat) ≤ _); omega) | with_reducible exact Or.inl rfl | with_reducible exact Or.inr rfl | with_reducible exact Or.inl trivial | with_reducible exact Or.inr trivial | (intro hz; exact absurd hz (by decide)) | (intro hz; exfalso; omega) | refine And.intro ?_ ?_ | intro _))
        all_goals (refine Qe (h _ fr.refl) ?_; unfold akS)
        all_goals first
          | rw [if_neg (by omega), if_pos (by omega)]
          | rw [if_neg (by omega), if_neg (by omega), if_neg (fun q => h1 q.1)]
    · refine x_C false [.inr (13, 0, 150, 0), .inl k, .inl o] [] 60 hS ⟨xok_m hS, trivial, trivial, trivial⟩ ?_
      (repeat' (first | refine m_isSlot _ ?_ ?_ ?_ | refine c_in _ _ _ ?_ ?_ | with_reducible assumption | with_reducible exact rfl | with_reducible exact trivial | (with_reducible (show (_ : Int) ≤ _); omega) | (with_reducible (show (_ : Int) < _); omega) | (with_reducible (show (_ : Nat) < _); omega) | (with_reducible (show (_ : Nat) ≤ _); omega) | with_reducible exact Or.inl rfl | with_reducible exact Or.inr rfl | with_reducible exact Or.inl trivial | with_reducible exact Or.inr trivial | (intro hz; exact absurd hz (by decide)) | (intro hz; exfalso; omega) | refine And.intro ?_ ?_ | intro _))
      all_goals (refine Qe (h _ fr.refl) ?_; unfold akS; rw [if_pos (by omega)])
theorem c_hasPlace {d : Nat} {I : mj_I} {S : mj_S} {Q : mj_Q} (hS : mk_Sh S) (a : Nat) (v : Int) (ha : mj_tg S a = 9) (hd : 0 < d) (hx : xok S (10, 0, a, 0)) (hn : 0 ≤ I a 1 ∧ I a 1 ≤ 24) (hT : 0 ≤ v ∧ v < I a 1 → Q (some (.inl 1)) I S) (hF : ¬ (0 ≤ v ∧ v < I a 1) → Q (some (.inl 0)) I S) : mj_C d 173 [.inr a, .inl v] I S Q := by
  refine x_C false [.inr (10, 0, a, 0), .inl v] [] 30 hS ⟨hx, trivial, trivial⟩ ?_
  (repeat' (first | refine c_within _ _ _ ?_ ?_ | with_reducible assumption | with_reducible exact rfl | with_reducible exact trivial | (with_reducible (show (_ : Int) ≤ _); omega) | (with_reducible (show (_ : Int) < _); omega) | (with_reducible (show (_ : Nat) < _); omega) | (with_reducible (show (_ : Nat) ≤ _); omega) | with_reducible exact Or.inl rfl | with_reducible exact Or.inr rfl | with_reducible exact Or.inl trivial | with_reducible exact Or.inr trivial | (intro hz; exact absurd hz (by decide)) | (intro hz; exfalso; omega) | refine And.intro ?_ ?_ | intro _))
  all_goals first | exact hT (by omega) | exact hF (by omega)
theorem ok_sl {S : mj_S} (hS : mk_Sh S) {k : Int} (h : 0 ≤ k ∧ k ≤ 4) : xok S (11, 0, 130 + 4 * k.toNat, 0) ∧ xok S (6, 0, 130 + 4 * k.toNat + 1, 0) ∧ xok S (10, 0, 130 + 4 * k.toNat + 2, 0) ∧ mj_tg S (130 + 4 * k.toNat + 2) = 9 ∧ mj_tg S (130 + 4 * k.toNat + 1) = 5 := by
  have a1 := (x_F3 hS (r := 61) (b := 0) (a := 119) (n := 5) (j := k.toNat) (x_chq_ok hS (by decide +kernel)) (by omega) (by decide) rfl).2
  have a2 := (x_F2 hS (k := 2) a1 rfl).2
  have a3 := (x_F2 hS (k := 3) a1 rfl).2
  refine ⟨a1, a2, a3, ?_, ?_⟩
  · rcases a3 with q | q
    · exact absurd (show (10 : Nat) = 0 from q) (by decide)
    · have q1 : mj_tg S (130 + 4 * k.toNat + 2) + 1 = 10 := q.1
      omega
  · rcases a2 with q | q
    · exact absurd (show (6 : Nat) = 0 from q) (by decide)
    · have q1 : mj_tg S (130 + 4 * k.toNat + 1) + 1 = 6 := q.1
      omega
def itS (I : mj_I) (k o : Int) : Int := if ¬ (0 ≤ k ∧ k ≤ 4) then -1000000001 else if rd I 175 k = 0 then -1000000011 else if rd I 175 k ≠ 2 then -1000000012 else if 0 ≤ o ∧ o < rd I 176 k then rd I 178 (24 * k + o) else -1000000013
theorem itS_c {I J : mj_I} (h : fr scr I J) (k o : Int) : itS I k o = itS J k o := by
  unfold itS
  rw [h.r (a := 175) (by unfold scr; omega), h.r (a := 176) (by unfold scr; omega), h.r (a := 178) (by unfold scr; omega)]
theorem P_item {L : Nat} {xs : Nat → Int32} {n : Nat} (k o : Int) : Pair L xs n 181 290 [.inl k, .inl o] := by
  refine pair_ro (fun _ I => itS I k o) (fun _ _ h => itS_c h k o) (fun I S Q hR h => ?_) (fun I S Q hR h => ?_)
  · obtain ⟨hS, hO, ⟨hN, hCb⟩, hI, hTp, hWt, hSh, hSl, hMo, hCa, hBd⟩ := hR
    have hH := hN.1
    have hCH := hCb.1
    have hb : mB 21 := Or.inl rfl
    unfold InvH at hH
    unfold CbH at hCH
    refine x_C false [.inr (1, 0, 20, 0), .inl k, .inl o] [] 60 hS ⟨xok_w hS, trivial, trivial, trivial⟩ ?_
    by_cases hv : 0 ≤ k ∧ k ≤ 4
    · obtain ⟨s1, s2, s3, s4, s5⟩ := hSl k (by omega) (by omega)
      obtain ⟨o1, o2, o3, o4, o5⟩ := ok_sl hS hv
      by_cases h1 : rd I 175 k = 2
      · obtain ⟨t1, t2, t3⟩ := s4 h1
        have t4 := fun h0 h1 => t3 o h0 h1
        (repeat' (first | refine c_isSlot _ ?_ ?_ ?_ | refine c_hasPlace hS _ _ o4 ?_ o3 ?_ ?_ ?_ | with_reducible assumption | with_reducible exact rfl | with_reducible exact trivial | (with_reducible (show (_ : Int) ≤ _); omega) | (with_reducible (show (_ : Int) < _); omega) | (with_reducible (show (_ : Nat) < _); omega) | (with_reducible (show (_ : Nat) ≤ _); omega) | with_reducible exact Or.inl rfl | with_reducible exact Or.inr rfl | with_reducible exact Or.inl trivial | with_reducible exact Or.inr trivial | (intro hz; exact absurd hz (by decide)) | (intro hz; exfalso; omega) | refine And.intro ?_ ?_ | intro _))
        all_goals (refine Qe (h _ fr.refl) ?_; unfold itS)
        · rw [if_neg (by omega), if_neg (by omega), if_neg (by omega), if_pos (by omega), t4 (by omega) (by omega)]
        · rw [if_neg (by omega), if_neg (by omega), if_neg (by omega), if_neg (by omega)]
      · (repeat' (first | refine c_isSlot _ ?_ ?_ ?_ | with_reducible assumption | with_reducible exact rfl | with_reducible exact trivial | (with_reducible (show (_ : Int) ≤ _); omega) | (with_reducible (show (_ : Int) < _); omega) | (with_reducible (show (_ : Nat) < _); omega) | (with_reducible (show (_ : Nat) ≤ _); omega) | with_reducible exact Or.inl rfl | with_reducible exact Or.inr rfl | with_reducible exact Or.inl trivial | with_reducible exact Or.inr trivial | (intro hz; exact absurd hz (by decide)) | (intro hz; exfalso; omega) | refine And.intro ?_ ?_ | intro _))
        all_goals (refine Qe (h _ fr.refl) ?_; unfold itS; omega)
    · (repeat' (first | refine c_isSlot _ ?_ ?_ ?_ | with_reducible assumption | with_reducible exact rfl | with_reducible exact trivial | (with_reducible (show (_ : Int) ≤ _); omega) | (with_reducible (show (_ : Int) < _); omega) | (with_reducible (show (_ : Nat) < _); omega) | (with_reducible (show (_ : Nat) ≤ _); omega) | with_reducible exact Or.inl rfl | with_reducible exact Or.inr rfl | with_reducible exact Or.inl trivial | with_reducible exact Or.inr trivial | (intro hz; exact absurd hz (by decide)) | (intro hz; exfalso; omega) | refine And.intro ?_ ?_ | intro _))
      all_goals (refine Qe (h _ fr.refl) ?_; unfold itS; omega)
  · obtain ⟨hS, hO, ⟨hN, hCb⟩, hI, hTp, hWt, hSh, hSl, hMo, hCa, hBd⟩ := hR
    have hH := hN.1
    have hCH := hCb.1
    have hb : mB 21 := Or.inl rfl
    unfold InvH at hH
    unfold CbH at hCH
    refine x_C false [.inr (13, 0, 150, 0), .inl k, .inl o] [] 60 hS ⟨xok_m hS, trivial, trivial, trivial⟩ ?_
    by_cases hv : 0 ≤ k ∧ k ≤ 4
    · obtain ⟨s1, s2, s3, s4, s5⟩ := hSl k (by omega) (by omega)
      by_cases h1 : rd I 175 k = 2
      · obtain ⟨t1, t2, t3⟩ := s4 h1
        (repeat' (first | refine m_isSlot _ ?_ ?_ ?_ | refine c_in _ _ _ ?_ ?_ | with_reducible assumption | with_reducible exact rfl | with_reducible exact trivial | (with_reducible (show (_ : Int) ≤ _); omega) | (with_reducible (show (_ : Int) < _); omega) | (with_reducible (show (_ : Nat) < _); omega) | (with_reducible (show (_ : Nat) ≤ _); omega) | with_reducible exact Or.inl rfl | with_reducible exact Or.inr rfl | with_reducible exact Or.inl trivial | with_reducible exact Or.inr trivial | (intro hz; exact absurd hz (by decide)) | (intro hz; exfalso; omega) | refine And.intro ?_ ?_ | intro _))
        all_goals (refine Qe (h _ fr.refl) ?_; unfold itS; omega)
      · (repeat' (first | refine m_isSlot _ ?_ ?_ ?_ | refine c_in _ _ _ ?_ ?_ | with_reducible assumption | with_reducible exact rfl | with_reducible exact trivial | (with_reducible (show (_ : Int) ≤ _); omega) | (with_reducible (show (_ : Int) < _); omega) | (with_reducible (show (_ : Nat) < _); omega) | (with_reducible (show (_ : Nat) ≤ _); omega) | with_reducible exact Or.inl rfl | with_reducible exact Or.inr rfl | with_reducible exact Or.inl trivial | with_reducible exact Or.inr trivial | (intro hz; exact absurd hz (by decide)) | (intro hz; exfalso; omega) | refine And.intro ?_ ?_ | intro _))
        all_goals (refine Qe (h _ fr.refl) ?_; unfold itS; omega)
    · (repeat' (first | refine m_isSlot _ ?_ ?_ ?_ | with_reducible assumption | with_reducible exact rfl | with_reducible exact trivial | (with_reducible (show (_ : Int) ≤ _); omega) | (with_reducible (show (_ : Int) < _); omega) | (with_reducible (show (_ : Nat) < _); omega) | (with_reducible (show (_ : Nat) ≤ _); omega) | with_reducible exact Or.inl rfl | with_reducible exact Or.inr rfl | with_reducible exact Or.inl trivial | with_reducible exact Or.inr trivial | (intro hz; exact absurd hz (by decide)) | (intro hz; exfalso; omega) | refine And.intro ?_ ?_ | intro _))
      all_goals (refine Qe (h _ fr.refl) ?_; unfold itS; omega)
def reS (I : mj_I) (k o : Int) : Int := if ¬ (0 ≤ k ∧ k ≤ 4) then -1000000001 else if rd I 175 k = 0 then -1000000011 else if rd I 175 k ≠ 3 then -1000000012 else if o = 0 then -1000000002 else (rd I 176 k).tmod o
theorem reS_c {I J : mj_I} (h : fr scr I J) (k o : Int) : reS I k o = reS J k o := by
  unfold reS
  rw [h.r (a := 175) (by unfold scr; omega), h.r (a := 176) (by unfold scr; omega)]
theorem tmod_m1 (x : Int) : x.tmod (-1) = 0 := by
  rw [Int.tmod_neg]
  exact Int.tmod_one x
theorem P_rest {L : Nat} {xs : Nat → Int32} {n : Nat} (k o : Int) : Pair L xs n 182 291 [.inl k, .inl o] := by
  refine pair_ro (fun _ I => reS I k o) (fun _ _ h => reS_c h k o) (fun I S Q hR h => ?_) (fun I S Q hR h => ?_)
  · obtain ⟨hS, hO, ⟨hN, hCb⟩, hI, hTp, hWt, hSh, hSl, hMo, hCa, hBd⟩ := hR
    have hH := hN.1
    have hCH := hCb.1
    have hb : mB 21 := Or.inl rfl
    unfold InvH at hH
    unfold CbH at hCH
    refine x_C false [.inr (1, 0, 20, 0), .inl k, .inl o] [] 60 hS ⟨xok_w hS, trivial, trivial, trivial⟩ ?_
    by_cases hv : 0 ≤ k ∧ k ≤ 4
    · obtain ⟨s1, s2, s3, s4, s5⟩ := hSl k (by omega) (by omega)
      by_cases h1 : rd I 175 k = 3
      · have t1 := s5 h1
        (repeat' (first | rw [t1] | refine c_isSlot _ ?_ ?_ ?_ | with_reducible assumption | with_reducible exact rfl | with_reducible exact trivial | (with_reducible (show (_ : Int) ≤ _); omega) | (with_reducible (show (_ : Int) < _); omega) | (with_reducible (show (_ : Nat) < _); omega) | (with_reducible (show (_ : Nat) ≤ _); omega) | with_reducible exact Or.inl rfl | with_reducible exact Or.inr rfl | with_reducible exact Or.inl trivial | with_reducible exact Or.inr trivial | (intro hz; exact absurd hz (by decide)) | (intro hz; exfalso; omega) | refine And.intro ?_ ?_ | intro _))
        all_goals (refine Qe (h _ fr.refl) ?_; unfold reS)
        all_goals first
          | rw [if_neg (by omega), if_neg (by omega), if_neg (by omega), if_pos (by omega)]
          | rw [if_neg (by omega), if_neg (by omega), if_neg (by omega), if_neg (by omega)]
      · (repeat' (first | refine c_isSlot _ ?_ ?_ ?_ | with_reducible assumption | with_reducible exact rfl | with_reducible exact trivial | (with_reducible (show (_ : Int) ≤ _); omega) | (with_reducible (show (_ : Int) < _); omega) | (with_reducible (show (_ : Nat) < _); omega) | (with_reducible (show (_ : Nat) ≤ _); omega) | with_reducible exact Or.inl rfl | with_reducible exact Or.inr rfl | with_reducible exact Or.inl trivial | with_reducible exact Or.inr trivial | (intro hz; exact absurd hz (by decide)) | (intro hz; exfalso; omega) | refine And.intro ?_ ?_ | intro _))
        all_goals (refine Qe (h _ fr.refl) ?_; unfold reS; first | rw [if_neg (by omega), if_pos (by omega)] | rw [if_neg (by omega), if_neg (by omega), if_pos (by omega)])
    · (repeat' (first | refine c_isSlot _ ?_ ?_ ?_ | with_reducible assumption | with_reducible exact rfl | with_reducible exact trivial | (with_reducible (show (_ : Int) ≤ _); omega) | (with_reducible (show (_ : Int) < _); omega) | (with_reducible (show (_ : Nat) < _); omega) | (with_reducible (show (_ : Nat) ≤ _); omega) | with_reducible exact Or.inl rfl | with_reducible exact Or.inr rfl | with_reducible exact Or.inl trivial | with_reducible exact Or.inr trivial | (intro hz; exact absurd hz (by decide)) | (intro hz; exfalso; omega) | refine And.intro ?_ ?_ | intro _))
      all_goals (refine Qe (h _ fr.refl) ?_; unfold reS; rw [if_pos (by omega)])
  · obtain ⟨hS, hO, ⟨hN, hCb⟩, hI, hTp, hWt, hSh, hSl, hMo, hCa, hBd⟩ := hR
    have hH := hN.1
    have hCH := hCb.1
    have hb : mB 21 := Or.inl rfl
    unfold InvH at hH
    unfold CbH at hCH
    refine x_C false [.inr (13, 0, 150, 0), .inl k, .inl o] [] 60 hS ⟨xok_m hS, trivial, trivial, trivial⟩ ?_
    by_cases hv : 0 ≤ k ∧ k ≤ 4
    · obtain ⟨s1, s2, s3, s4, s5⟩ := hSl k (by omega) (by omega)
      by_cases h1 : rd I 175 k = 3
      · (repeat' (first | refine m_isSlot _ ?_ ?_ ?_ | with_reducible assumption | with_reducible exact rfl | with_reducible exact trivial | (with_reducible (show (_ : Int) ≤ _); omega) | (with_reducible (show (_ : Int) < _); omega) | (with_reducible (show (_ : Nat) < _); omega) | (with_reducible (show (_ : Nat) ≤ _); omega) | with_reducible exact Or.inl rfl | with_reducible exact Or.inr rfl | with_reducible exact Or.inl trivial | with_reducible exact Or.inr trivial | (intro hz; exact absurd hz (by decide)) | (intro hz; exfalso; omega) | refine And.intro ?_ ?_ | intro _))
        all_goals (refine Qe (h _ fr.refl) ?_; unfold reS)
        all_goals first
          | rw [if_neg (by omega), if_neg (by omega), if_neg (by omega), if_pos (by omega)]
          | (rw [if_neg (by omega), if_neg (by omega), if_neg (by omega), if_neg (by omega)]; done)
          | (rw [if_neg (by omega), if_neg (by omega), if_neg (by omega), if_neg (by omega), show o = -1 by omega]; exact tmod_m1 _)
      · (repeat' (first | refine m_isSlot _ ?_ ?_ ?_ | with_reducible assumption | with_reducible exact rfl | with_reducible exact trivial | (with_reducible (show (_ : Int) ≤ _); omega) | (with_reducible (show (_ : Int) < _); omega) | (with_reducible (show (_ : Nat) < _); omega) | (with_reducible (show (_ : Nat) ≤ _); omega) | with_reducible exact Or.inl rfl | with_reducible exact Or.inr rfl | with_reducible exact Or.inl trivial | with_reducible exact Or.inr trivial | (intro hz; exact absurd hz (by decide)) | (intro hz; exfalso; omega) | refine And.intro ?_ ?_ | intro _))
        all_goals (refine Qe (h _ fr.refl) ?_; unfold reS; first | rw [if_neg (by omega), if_pos (by omega)] | rw [if_neg (by omega), if_neg (by omega), if_pos (by omega)])
    · (repeat' (first | refine m_isSlot _ ?_ ?_ ?_ | with_reducible assumption | with_reducible exact rfl | with_reducible exact trivial | (with_reducible (show (_ : Int) ≤ _); omega) | (with_reducible (show (_ : Int) < _); omega) | (with_reducible (show (_ : Nat) < _); omega) | (with_reducible (show (_ : Nat) ≤ _); omega) | with_reducible exact Or.inl rfl | with_reducible exact Or.inr rfl | with_reducible exact Or.inl trivial | with_reducible exact Or.inr trivial | (intro hz; exact absurd hz (by decide)) | (intro hz; exfalso; omega) | refine And.intro ?_ ?_ | intro _))
      all_goals (refine Qe (h _ fr.refl) ?_; unfold reS; rw [if_pos (by omega)])
